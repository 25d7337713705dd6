def mTri (fpx fpy : Nat → Int64) (a b d : Nat) (x y : Int64) : Prop := ¬ mTurn (fpx a) (fpy a) (fpx b) (fpy b) (fpx d) (fpy d) = 0 ∧ ((0 ≤ mTurn (fpx a) (fpy a) (fpx b) (fpy b) x y ∧ 0 ≤ mTurn (fpx b) (fpy b) (fpx d) (fpy d) x y ∧ 0 ≤ mTurn (fpx d) (fpy d) (fpx a) (fpy a) x y) ∨ (mTurn (fpx a) (fpy a) (fpx b) (fpy b) x y ≤ 0 ∧ mTurn (fpx b) (fpy b) (fpx d) (fpy d) x y ≤ 0 ∧ mTurn (fpx d) (fpy d) (fpx a) (fpy a) x y ≤ 0))
set_option maxHeartbeats 4000000 in
set_option maxRecDepth 100000 in
theorem tX5_isInTriangle (l : Launch) (dC : Nat → ClassId) (dI : Nat → Nat → Nat) (cJ cI cZ : ClassId) (om cd ns apx apy act nb asd amv asl apl asw nw aor nc aon atw aup alw nm : Nat) (mx my up lo rx ry : Int64) (fpx : Nat → Int64) (fpy : Nat → Int64) (a b d : Nat) (x y : Int64) (ha : a < 256) (hb_ : b < 256) (hd : d < 256) : PMi l yX5_isInTriangle wsX5_isInTriangle { frames := 1, cells := 0, slots := 0, locals := 31 } [.ref om, .int (nI a), .int (nI b), .int (nI d), .long x, .long y] (dC, dI) [(om, .inr (5, [.int (nI cd), .int (nI ns), .ref apx, .ref apy, .ref act, .int (nI nb), .ref asd, .ref amv, .ref asl, .ref apl, .ref asw, .int (nI nw), .ref aor, .int (nI nc), .ref aon, .ref atw, .long mx, .long my, .ref aup, .ref alw, .int (nI nm), .long up, .long lo, .long rx, .long ry])), (apx, .inl (cJ, 256, .inr (.inl fpx))), (apy, .inl (cJ, 256, .inr (.inl fpy)))] [(cJ, .long), (cI, .int), (cZ, .boolean)] (bI (pB (mTri fpx fpy a b d x y))) := by
  refine kOf (cc := cX5_isInTriangle) (maxL := 14) (ret := (some .boolean)) (by decide) rfl (Nat.le_of_ble_eq_true rfl) ?_
  intro p e s m below meth c hx hb hr hml hts hown hlocks hB ls hl
  obtain ⟨hP, hK⟩ := hB
  have hl : lv_has ls 14 [(0, .ref om), (1, .int (nI a)), (2, .int (nI b)), (3, .int (nI d)), (4, .long x), (6, .long y)] := hl
  have hi5 : ∀ w ∈ u_ws RX5 TX5 25, w ∈ wsX5_isInTriangle := by decide +kernel
  have f7 := hts (.fieldLink RX5 7 "SweptBoxesModel" "px" "[J") (by decide +kernel)
  have f13 := hts (.fieldLink RX5 13 "SweptBoxesModel" "py" "[J") (by decide +kernel)
  refine lv_aload_n hx hb dX5_isInTriangle_0 rfl (lv_at hl 0 rfl) ?_
  refine va_get (D := (dC, dI)) (ci := 5) (v := .ref apx) (C := RX5) (T := TX5) (N := 25) hx hb hts hi5 hown hK hP 0 rfl rfl 2 (by decide) f7 (fun _ h9 => h9) rfl dX5_isInTriangle_1 ?_
  refine lv_iload_n hx hb dX5_isInTriangle_4 rfl (lv_at hl 1 rfl) ?_
  refine va_lald hx hb hK hP 1 0 rfl rfl (vp_in_nI (show a < 256 by omega) (by omega)) dX5_isInTriangle_5 ?_
  rw [show (nI a).toNatClampNeg = a from nI_clamp (show a < 2 ^ 31 by omega)]
  refine lv_aload_n hx hb dX5_isInTriangle_6 rfl (lv_at hl 0 rfl) ?_
  refine va_get (D := (dC, dI)) (ci := 5) (v := .ref apy) (C := RX5) (T := TX5) (N := 25) hx hb hts hi5 hown hK hP 0 rfl rfl 3 (by decide) f13 (fun _ h9 => h9) rfl dX5_isInTriangle_7 ?_
  refine lv_iload_n hx hb dX5_isInTriangle_10 rfl (lv_at hl 1 rfl) ?_
  refine va_lald hx hb hK hP 2 0 rfl rfl (vp_in_nI (show a < 256 by omega) (by omega)) dX5_isInTriangle_11 ?_
  rw [show (nI a).toNatClampNeg = a from nI_clamp (show a < 2 ^ 31 by omega)]
  refine lv_aload_n hx hb dX5_isInTriangle_12 rfl (lv_at hl 0 rfl) ?_
  refine va_get (D := (dC, dI)) (ci := 5) (v := .ref apx) (C := RX5) (T := TX5) (N := 25) hx hb hts hi5 hown hK hP 0 rfl rfl 2 (by decide) f7 (fun _ h9 => h9) rfl dX5_isInTriangle_13 ?_
  refine lv_iload_n hx hb dX5_isInTriangle_16 rfl (lv_at hl 2 rfl) ?_
  refine va_lald hx hb hK hP 1 0 rfl rfl (vp_in_nI (show b < 256 by omega) (by omega)) dX5_isInTriangle_17 ?_
  rw [show (nI b).toNatClampNeg = b from nI_clamp (show b < 2 ^ 31 by omega)]
  refine lv_aload_n hx hb dX5_isInTriangle_18 rfl (lv_at hl 0 rfl) ?_
  refine va_get (D := (dC, dI)) (ci := 5) (v := .ref apy) (C := RX5) (T := TX5) (N := 25) hx hb hts hi5 hown hK hP 0 rfl rfl 3 (by decide) f13 (fun _ h9 => h9) rfl dX5_isInTriangle_19 ?_
  refine lv_iload_n hx hb dX5_isInTriangle_22 rfl (lv_at hl 2 rfl) ?_
  refine va_lald hx hb hK hP 2 0 rfl rfl (vp_in_nI (show b < 256 by omega) (by omega)) dX5_isInTriangle_23 ?_
  rw [show (nI b).toNatClampNeg = b from nI_clamp (show b < 2 ^ 31 by omega)]
  refine lv_aload_n hx hb dX5_isInTriangle_24 rfl (lv_at hl 0 rfl) ?_
  refine va_get (D := (dC, dI)) (ci := 5) (v := .ref apx) (C := RX5) (T := TX5) (N := 25) hx hb hts hi5 hown hK hP 0 rfl rfl 2 (by decide) f7 (fun _ h9 => h9) rfl dX5_isInTriangle_25 ?_
  refine lv_iload_n hx hb dX5_isInTriangle_28 rfl (lv_at hl 3 rfl) ?_
  refine va_lald hx hb hK hP 1 0 rfl rfl (vp_in_nI (show d < 256 by omega) (by omega)) dX5_isInTriangle_29 ?_
  rw [show (nI d).toNatClampNeg = d from nI_clamp (show d < 2 ^ 31 by omega)]
  refine lv_aload_n hx hb dX5_isInTriangle_30 rfl (lv_at hl 0 rfl) ?_
  refine va_get (D := (dC, dI)) (ci := 5) (v := .ref apy) (C := RX5) (T := TX5) (N := 25) hx hb hts hi5 hown hK hP 0 rfl rfl 3 (by decide) f13 (fun _ h9 => h9) rfl dX5_isInTriangle_31 ?_
  refine lv_iload_n hx hb dX5_isInTriangle_34 rfl (lv_at hl 3 rfl) ?_
  refine va_lald hx hb hK hP 2 0 rfl rfl (vp_in_nI (show d < 256 by omega) (by omega)) dX5_isInTriangle_35 ?_
  rw [show (nI d).toNatClampNeg = d from nI_clamp (show d < 2 ^ 31 by omega)]
  refine kpSl (As := [.long (fpx a), .long (fpy a), .long (fpx b), .long (fpy b), .long (fpx d), .long (fpy d)]) (rest := []) (WC := []) (tyC := []) ⟨hx, hb, hml, hown, hts⟩ (tX5_turn l dC dI (fpx a) (fpy a) (fpx b) (fpy b) (fpx d) (fpy d)) (cwS 6 hts gX5_isInTriangle_X5_turn rfl rfl rfl (by decide +kernel) ⟨Nat.le_of_ble_eq_true rfl, Nat.le_of_ble_eq_true rfl⟩) (kPick (isC := []) hP rfl) (hK.sub [] rfl) rfl rfl hl.1 (Nat.le_of_ble_eq_true rfl) dX5_isInTriangle_36 ⟨Nat.le_of_ble_eq_true rfl, Nat.le_of_ble_eq_true rfl⟩ ?_
  refine lv_lconst (v := 0) hx hb dX5_isInTriangle_39 (by decide) ?_
  refine W.lcmp hx hb dX5_isInTriangle_40 ?_
  refine lv_if_ne (tgt := 46) hx hb dX5_isInTriangle_41 (by decide) (fun c41 => ?_) (fun c41 => ?_)
  · simp only [ne_eq, lg_cmp_eq] at c41
    refine lv_aload_n hx hb dX5_isInTriangle_46 rfl (lv_at hl 0 rfl) ?_
    refine va_get (D := (dC, dI)) (ci := 5) (v := .ref apx) (C := RX5) (T := TX5) (N := 25) hx hb hts hi5 hown hK hP 0 rfl rfl 2 (by decide) f7 (fun _ h9 => h9) rfl dX5_isInTriangle_47 ?_
    refine lv_iload_n hx hb dX5_isInTriangle_50 rfl (lv_at hl 1 rfl) ?_
    refine va_lald hx hb hK hP 1 0 rfl rfl (vp_in_nI (show a < 256 by omega) (by omega)) dX5_isInTriangle_51 ?_
    rw [show (nI a).toNatClampNeg = a from nI_clamp (show a < 2 ^ 31 by omega)]
    refine lv_aload_n hx hb dX5_isInTriangle_52 rfl (lv_at hl 0 rfl) ?_
    refine va_get (D := (dC, dI)) (ci := 5) (v := .ref apy) (C := RX5) (T := TX5) (N := 25) hx hb hts hi5 hown hK hP 0 rfl rfl 3 (by decide) f13 (fun _ h9 => h9) rfl dX5_isInTriangle_53 ?_
    refine lv_iload_n hx hb dX5_isInTriangle_56 rfl (lv_at hl 1 rfl) ?_
    refine va_lald hx hb hK hP 2 0 rfl rfl (vp_in_nI (show a < 256 by omega) (by omega)) dX5_isInTriangle_57 ?_
    rw [show (nI a).toNatClampNeg = a from nI_clamp (show a < 2 ^ 31 by omega)]
    refine lv_aload_n hx hb dX5_isInTriangle_58 rfl (lv_at hl 0 rfl) ?_
    refine va_get (D := (dC, dI)) (ci := 5) (v := .ref apx) (C := RX5) (T := TX5) (N := 25) hx hb hts hi5 hown hK hP 0 rfl rfl 2 (by decide) f7 (fun _ h9 => h9) rfl dX5_isInTriangle_59 ?_
    refine lv_iload_n hx hb dX5_isInTriangle_62 rfl (lv_at hl 2 rfl) ?_
    refine va_lald hx hb hK hP 1 0 rfl rfl (vp_in_nI (show b < 256 by omega) (by omega)) dX5_isInTriangle_63 ?_
    rw [show (nI b).toNatClampNeg = b from nI_clamp (show b < 2 ^ 31 by omega)]
    refine lv_aload_n hx hb dX5_isInTriangle_64 rfl (lv_at hl 0 rfl) ?_
    refine va_get (D := (dC, dI)) (ci := 5) (v := .ref apy) (C := RX5) (T := TX5) (N := 25) hx hb hts hi5 hown hK hP 0 rfl rfl 3 (by decide) f13 (fun _ h9 => h9) rfl dX5_isInTriangle_65 ?_
    refine lv_iload_n hx hb dX5_isInTriangle_68 rfl (lv_at hl 2 rfl) ?_
    refine va_lald hx hb hK hP 2 0 rfl rfl (vp_in_nI (show b < 256 by omega) (by omega)) dX5_isInTriangle_69 ?_
    rw [show (nI b).toNatClampNeg = b from nI_clamp (show b < 2 ^ 31 by omega)]
    refine lv_lload hx hb dX5_isInTriangle_70 (lv_at hl 4 rfl) ?_
    refine lv_lload hx hb dX5_isInTriangle_72 (lv_at hl 5 rfl) ?_
    refine kpSl (As := [.long (fpx a), .long (fpy a), .long (fpx b), .long (fpy b), .long x, .long y]) (rest := []) (WC := []) (tyC := []) ⟨hx, hb, hml, hown, hts⟩ (tX5_turn l dC dI (fpx a) (fpy a) (fpx b) (fpy b) x y) (cwS 6 hts gX5_isInTriangle_X5_turn rfl rfl rfl (by decide +kernel) ⟨Nat.le_of_ble_eq_true rfl, Nat.le_of_ble_eq_true rfl⟩) (kPick (isC := []) hP rfl) (hK.sub [] rfl) rfl rfl hl.1 (Nat.le_of_ble_eq_true rfl) dX5_isInTriangle_74 ⟨Nat.le_of_ble_eq_true rfl, Nat.le_of_ble_eq_true rfl⟩ ?_
    refine lv_lstore (lv' := [(8, .long (mTurn (fpx a) (fpy a) (fpx b) (fpy b) x y)), (0, .ref om), (1, .int (nI a)), (2, .int (nI b)), (3, .int (nI d)), (4, .long x), (6, .long y)]) hx hb dX5_isInTriangle_77 hl (by decide) rfl (fun ls hl => ?_)
    refine lv_aload_n hx hb dX5_isInTriangle_79 rfl (lv_at hl 1 rfl) ?_
    refine va_get (D := (dC, dI)) (ci := 5) (v := .ref apx) (C := RX5) (T := TX5) (N := 25) hx hb hts hi5 hown hK hP 0 rfl rfl 2 (by decide) f7 (fun _ h9 => h9) rfl dX5_isInTriangle_80 ?_
    refine lv_iload_n hx hb dX5_isInTriangle_83 rfl (lv_at hl 3 rfl) ?_
    refine va_lald hx hb hK hP 1 0 rfl rfl (vp_in_nI (show b < 256 by omega) (by omega)) dX5_isInTriangle_84 ?_
    rw [show (nI b).toNatClampNeg = b from nI_clamp (show b < 2 ^ 31 by omega)]
    refine lv_aload_n hx hb dX5_isInTriangle_85 rfl (lv_at hl 1 rfl) ?_
    refine va_get (D := (dC, dI)) (ci := 5) (v := .ref apy) (C := RX5) (T := TX5) (N := 25) hx hb hts hi5 hown hK hP 0 rfl rfl 3 (by decide) f13 (fun _ h9 => h9) rfl dX5_isInTriangle_86 ?_
    refine lv_iload_n hx hb dX5_isInTriangle_89 rfl (lv_at hl 3 rfl) ?_
    refine va_lald hx hb hK hP 2 0 rfl rfl (vp_in_nI (show b < 256 by omega) (by omega)) dX5_isInTriangle_90 ?_
    rw [show (nI b).toNatClampNeg = b from nI_clamp (show b < 2 ^ 31 by omega)]
    refine lv_aload_n hx hb dX5_isInTriangle_91 rfl (lv_at hl 1 rfl) ?_
    refine va_get (D := (dC, dI)) (ci := 5) (v := .ref apx) (C := RX5) (T := TX5) (N := 25) hx hb hts hi5 hown hK hP 0 rfl rfl 2 (by decide) f7 (fun _ h9 => h9) rfl dX5_isInTriangle_92 ?_
    refine lv_iload_n hx hb dX5_isInTriangle_95 rfl (lv_at hl 4 rfl) ?_
    refine va_lald hx hb hK hP 1 0 rfl rfl (vp_in_nI (show d < 256 by omega) (by omega)) dX5_isInTriangle_96 ?_
    rw [show (nI d).toNatClampNeg = d from nI_clamp (show d < 2 ^ 31 by omega)]
    refine lv_aload_n hx hb dX5_isInTriangle_97 rfl (lv_at hl 1 rfl) ?_
    refine va_get (D := (dC, dI)) (ci := 5) (v := .ref apy) (C := RX5) (T := TX5) (N := 25) hx hb hts hi5 hown hK hP 0 rfl rfl 3 (by decide) f13 (fun _ h9 => h9) rfl dX5_isInTriangle_98 ?_
    refine lv_iload_n hx hb dX5_isInTriangle_101 rfl (lv_at hl 4 rfl) ?_
    refine va_lald hx hb hK hP 2 0 rfl rfl (vp_in_nI (show d < 256 by omega) (by omega)) dX5_isInTriangle_102 ?_
    rw [show (nI d).toNatClampNeg = d from nI_clamp (show d < 2 ^ 31 by omega)]
    refine lv_lload hx hb dX5_isInTriangle_103 (lv_at hl 5 rfl) ?_
    refine lv_lload hx hb dX5_isInTriangle_105 (lv_at hl 6 rfl) ?_
    refine kpSl (As := [.long (fpx b), .long (fpy b), .long (fpx d), .long (fpy d), .long x, .long y]) (rest := []) (WC := []) (tyC := []) ⟨hx, hb, hml, hown, hts⟩ (tX5_turn l dC dI (fpx b) (fpy b) (fpx d) (fpy d) x y) (cwS 6 hts gX5_isInTriangle_X5_turn rfl rfl rfl (by decide +kernel) ⟨Nat.le_of_ble_eq_true rfl, Nat.le_of_ble_eq_true rfl⟩) (kPick (isC := []) hP rfl) (hK.sub [] rfl) rfl rfl hl.1 (Nat.le_of_ble_eq_true rfl) dX5_isInTriangle_107 ⟨Nat.le_of_ble_eq_true rfl, Nat.le_of_ble_eq_true rfl⟩ ?_
    refine lv_lstore (lv' := [(10, .long (mTurn (fpx b) (fpy b) (fpx d) (fpy d) x y)), (8, .long (mTurn (fpx a) (fpy a) (fpx b) (fpy b) x y)), (0, .ref om), (1, .int (nI a)), (2, .int (nI b)), (3, .int (nI d)), (4, .long x), (6, .long y)]) hx hb dX5_isInTriangle_110 hl (by decide) rfl (fun ls hl => ?_)
    refine lv_aload_n hx hb dX5_isInTriangle_112 rfl (lv_at hl 2 rfl) ?_
    refine va_get (D := (dC, dI)) (ci := 5) (v := .ref apx) (C := RX5) (T := TX5) (N := 25) hx hb hts hi5 hown hK hP 0 rfl rfl 2 (by decide) f7 (fun _ h9 => h9) rfl dX5_isInTriangle_113 ?_
    refine lv_iload_n hx hb dX5_isInTriangle_116 rfl (lv_at hl 5 rfl) ?_
    refine va_lald hx hb hK hP 1 0 rfl rfl (vp_in_nI (show d < 256 by omega) (by omega)) dX5_isInTriangle_117 ?_
    rw [show (nI d).toNatClampNeg = d from nI_clamp (show d < 2 ^ 31 by omega)]
    refine lv_aload_n hx hb dX5_isInTriangle_118 rfl (lv_at hl 2 rfl) ?_
    refine va_get (D := (dC, dI)) (ci := 5) (v := .ref apy) (C := RX5) (T := TX5) (N := 25) hx hb hts hi5 hown hK hP 0 rfl rfl 3 (by decide) f13 (fun _ h9 => h9) rfl dX5_isInTriangle_119 ?_
    refine lv_iload_n hx hb dX5_isInTriangle_122 rfl (lv_at hl 5 rfl) ?_
    refine va_lald hx hb hK hP 2 0 rfl rfl (vp_in_nI (show d < 256 by omega) (by omega)) dX5_isInTriangle_123 ?_
    rw [show (nI d).toNatClampNeg = d from nI_clamp (show d < 2 ^ 31 by omega)]
    refine lv_aload_n hx hb dX5_isInTriangle_124 rfl (lv_at hl 2 rfl) ?_
    refine va_get (D := (dC, dI)) (ci := 5) (v := .ref apx) (C := RX5) (T := TX5) (N := 25) hx hb hts hi5 hown hK hP 0 rfl rfl 2 (by decide) f7 (fun _ h9 => h9) rfl dX5_isInTriangle_125 ?_
    refine lv_iload_n hx hb dX5_isInTriangle_128 rfl (lv_at hl 3 rfl) ?_
    refine va_lald hx hb hK hP 1 0 rfl rfl (vp_in_nI (show a < 256 by omega) (by omega)) dX5_isInTriangle_129 ?_
    rw [show (nI a).toNatClampNeg = a from nI_clamp (show a < 2 ^ 31 by omega)]
    refine lv_aload_n hx hb dX5_isInTriangle_130 rfl (lv_at hl 2 rfl) ?_
    refine va_get (D := (dC, dI)) (ci := 5) (v := .ref apy) (C := RX5) (T := TX5) (N := 25) hx hb hts hi5 hown hK hP 0 rfl rfl 3 (by decide) f13 (fun _ h9 => h9) rfl dX5_isInTriangle_131 ?_
    refine lv_iload_n hx hb dX5_isInTriangle_134 rfl (lv_at hl 3 rfl) ?_
    refine va_lald hx hb hK hP 2 0 rfl rfl (vp_in_nI (show a < 256 by omega) (by omega)) dX5_isInTriangle_135 ?_
    rw [show (nI a).toNatClampNeg = a from nI_clamp (show a < 2 ^ 31 by omega)]
    refine lv_lload hx hb dX5_isInTriangle_136 (lv_at hl 6 rfl) ?_
    refine lv_lload hx hb dX5_isInTriangle_138 (lv_at hl 7 rfl) ?_
    refine kpSl (As := [.long (fpx d), .long (fpy d), .long (fpx a), .long (fpy a), .long x, .long y]) (rest := []) (WC := []) (tyC := []) ⟨hx, hb, hml, hown, hts⟩ (tX5_turn l dC dI (fpx d) (fpy d) (fpx a) (fpy a) x y) (cwS 6 hts gX5_isInTriangle_X5_turn rfl rfl rfl (by decide +kernel) ⟨Nat.le_of_ble_eq_true rfl, Nat.le_of_ble_eq_true rfl⟩) (kPick (isC := []) hP rfl) (hK.sub [] rfl) rfl rfl hl.1 (Nat.le_of_ble_eq_true rfl) dX5_isInTriangle_140 ⟨Nat.le_of_ble_eq_true rfl, Nat.le_of_ble_eq_true rfl⟩ ?_
    refine lv_lstore (lv' := [(12, .long (mTurn (fpx d) (fpy d) (fpx a) (fpy a) x y)), (10, .long (mTurn (fpx b) (fpy b) (fpx d) (fpy d) x y)), (8, .long (mTurn (fpx a) (fpy a) (fpx b) (fpy b) x y)), (0, .ref om), (1, .int (nI a)), (2, .int (nI b)), (3, .int (nI d)), (4, .long x), (6, .long y)]) hx hb dX5_isInTriangle_143 hl (by decide) rfl (fun ls hl => ?_)
    refine lv_lload hx hb dX5_isInTriangle_145 (lv_at hl 2 rfl) ?_
    refine lv_lconst (v := 0) hx hb dX5_isInTriangle_147 (by decide) ?_
    refine W.lcmp hx hb dX5_isInTriangle_148 ?_
    refine lv_if_lt (tgt := 166) hx hb dX5_isInTriangle_149 (by decide) (fun c149 => ?_) (fun c149 => ?_)
    · rw [lg_cmp_lt] at c149
      refine lv_lload hx hb dX5_isInTriangle_166 (lv_at hl 2 rfl) ?_
      refine lv_lconst (v := 0) hx hb dX5_isInTriangle_168 (by decide) ?_
      refine W.lcmp hx hb dX5_isInTriangle_169 ?_
      refine lv_if_gt (tgt := 191) hx hb dX5_isInTriangle_170 (by decide) (fun c170 => ?_) (fun c170 => ?_)
      · rw [lg_cmp_gt] at c170
        refine lv_iconst (v := (nI 0)) hx hb dX5_isInTriangle_191 (by decide) ?_
        exact kRz hx hb hr hlocks dX5_isInTriangle_192 (kp0 (by unfold mTri; (try simp only [Int64.lt_iff_toInt_lt, Int64.le_iff_toInt_le, ← Int64.toInt_inj] at c41 c149 c170 ⊢); omega))
      · rw [lg_cmp_gt, Int64.not_lt] at c170
        refine lv_lload hx hb dX5_isInTriangle_173 (lv_at hl 1 rfl) ?_
        refine lv_lconst (v := 0) hx hb dX5_isInTriangle_175 (by decide) ?_
        refine W.lcmp hx hb dX5_isInTriangle_176 ?_
        refine lv_if_gt (tgt := 191) hx hb dX5_isInTriangle_177 (by decide) (fun c177 => ?_) (fun c177 => ?_)
        · rw [lg_cmp_gt] at c177
          refine lv_iconst (v := (nI 0)) hx hb dX5_isInTriangle_191 (by decide) ?_
          exact kRz hx hb hr hlocks dX5_isInTriangle_192 (kp0 (by unfold mTri; (try simp only [Int64.lt_iff_toInt_lt, Int64.le_iff_toInt_le, ← Int64.toInt_inj] at c41 c149 c170 c177 ⊢); omega))
        · rw [lg_cmp_gt, Int64.not_lt] at c177
          refine lv_lload hx hb dX5_isInTriangle_180 (lv_at hl 0 rfl) ?_
          refine lv_lconst (v := 0) hx hb dX5_isInTriangle_182 (by decide) ?_
          refine W.lcmp hx hb dX5_isInTriangle_183 ?_
          refine lv_if_gt (tgt := 191) hx hb dX5_isInTriangle_184 (by decide) (fun c184 => ?_) (fun c184 => ?_)
          · rw [lg_cmp_gt] at c184
            refine lv_iconst (v := (nI 0)) hx hb dX5_isInTriangle_191 (by decide) ?_
            exact kRz hx hb hr hlocks dX5_isInTriangle_192 (kp0 (by unfold mTri; (try simp only [Int64.lt_iff_toInt_lt, Int64.le_iff_toInt_le, ← Int64.toInt_inj] at c41 c149 c170 c177 c184 ⊢); omega))
          · rw [lg_cmp_gt, Int64.not_lt] at c184
            refine lv_iconst (v := (nI 1)) hx hb dX5_isInTriangle_187 (by decide) ?_
            refine lv_goto (tgt := 192) hx hb dX5_isInTriangle_188 (by decide) ?_
            exact kRz hx hb hr hlocks dX5_isInTriangle_192 (kp1 (by unfold mTri; (try simp only [Int64.lt_iff_toInt_lt, Int64.le_iff_toInt_le, ← Int64.toInt_inj] at c41 c149 c170 c177 c184 ⊢); omega))
    · rw [lg_cmp_lt, Int64.not_lt] at c149
      refine lv_lload hx hb dX5_isInTriangle_152 (lv_at hl 1 rfl) ?_
      refine lv_lconst (v := 0) hx hb dX5_isInTriangle_154 (by decide) ?_
      refine W.lcmp hx hb dX5_isInTriangle_155 ?_
      refine lv_if_lt (tgt := 166) hx hb dX5_isInTriangle_156 (by decide) (fun c156 => ?_) (fun c156 => ?_)
      · rw [lg_cmp_lt] at c156
        refine lv_lload hx hb dX5_isInTriangle_166 (lv_at hl 2 rfl) ?_
        refine lv_lconst (v := 0) hx hb dX5_isInTriangle_168 (by decide) ?_
        refine W.lcmp hx hb dX5_isInTriangle_169 ?_
        refine lv_if_gt (tgt := 191) hx hb dX5_isInTriangle_170 (by decide) (fun c170 => ?_) (fun c170 => ?_)
        · rw [lg_cmp_gt] at c170
          refine lv_iconst (v := (nI 0)) hx hb dX5_isInTriangle_191 (by decide) ?_
          exact kRz hx hb hr hlocks dX5_isInTriangle_192 (kp0 (by unfold mTri; (try simp only [Int64.lt_iff_toInt_lt, Int64.le_iff_toInt_le, ← Int64.toInt_inj] at c41 c149 c156 c170 ⊢); omega))
        · rw [lg_cmp_gt, Int64.not_lt] at c170
          refine lv_lload hx hb dX5_isInTriangle_173 (lv_at hl 1 rfl) ?_
          refine lv_lconst (v := 0) hx hb dX5_isInTriangle_175 (by decide) ?_
          refine W.lcmp hx hb dX5_isInTriangle_176 ?_
          refine lv_if_gt (tgt := 191) hx hb dX5_isInTriangle_177 (by decide) (fun c177 => ?_) (fun c177 => ?_)
          · rw [lg_cmp_gt] at c177
            refine lv_iconst (v := (nI 0)) hx hb dX5_isInTriangle_191 (by decide) ?_
            exact kRz hx hb hr hlocks dX5_isInTriangle_192 (kp0 (by unfold mTri; (try simp only [Int64.lt_iff_toInt_lt, Int64.le_iff_toInt_le, ← Int64.toInt_inj] at c41 c149 c156 c170 c177 ⊢); omega))
          · rw [lg_cmp_gt, Int64.not_lt] at c177
            refine lv_lload hx hb dX5_isInTriangle_180 (lv_at hl 0 rfl) ?_
            refine lv_lconst (v := 0) hx hb dX5_isInTriangle_182 (by decide) ?_
            refine W.lcmp hx hb dX5_isInTriangle_183 ?_
            refine lv_if_gt (tgt := 191) hx hb dX5_isInTriangle_184 (by decide) (fun c184 => ?_) (fun c184 => ?_)
            · rw [lg_cmp_gt] at c184
              refine lv_iconst (v := (nI 0)) hx hb dX5_isInTriangle_191 (by decide) ?_
              exact kRz hx hb hr hlocks dX5_isInTriangle_192 (kp0 (by unfold mTri; (try simp only [Int64.lt_iff_toInt_lt, Int64.le_iff_toInt_le, ← Int64.toInt_inj] at c41 c149 c156 c170 c177 c184 ⊢); omega))
            · rw [lg_cmp_gt, Int64.not_lt] at c184
              refine lv_iconst (v := (nI 1)) hx hb dX5_isInTriangle_187 (by decide) ?_
              refine lv_goto (tgt := 192) hx hb dX5_isInTriangle_188 (by decide) ?_
              exact kRz hx hb hr hlocks dX5_isInTriangle_192 (kp1 (by unfold mTri; (try simp only [Int64.lt_iff_toInt_lt, Int64.le_iff_toInt_le, ← Int64.toInt_inj] at c41 c149 c156 c170 c177 c184 ⊢); omega))
      · rw [lg_cmp_lt, Int64.not_lt] at c156
        refine lv_lload hx hb dX5_isInTriangle_159 (lv_at hl 0 rfl) ?_
        refine lv_lconst (v := 0) hx hb dX5_isInTriangle_161 (by decide) ?_
        refine W.lcmp hx hb dX5_isInTriangle_162 ?_
        refine lv_if_ge (tgt := 187) hx hb dX5_isInTriangle_163 (by decide) (fun c163 => ?_) (fun c163 => ?_)
        · rw [lg_cmp_ge] at c163
          refine lv_iconst (v := (nI 1)) hx hb dX5_isInTriangle_187 (by decide) ?_
          refine lv_goto (tgt := 192) hx hb dX5_isInTriangle_188 (by decide) ?_
          exact kRz hx hb hr hlocks dX5_isInTriangle_192 (kp1 (by unfold mTri; (try simp only [Int64.lt_iff_toInt_lt, Int64.le_iff_toInt_le, ← Int64.toInt_inj] at c41 c149 c156 c163 ⊢); omega))
        · rw [lg_cmp_ge, Int64.not_le] at c163
          refine lv_lload hx hb dX5_isInTriangle_166 (lv_at hl 2 rfl) ?_
          refine lv_lconst (v := 0) hx hb dX5_isInTriangle_168 (by decide) ?_
          refine W.lcmp hx hb dX5_isInTriangle_169 ?_
          refine lv_if_gt (tgt := 191) hx hb dX5_isInTriangle_170 (by decide) (fun c170 => ?_) (fun c170 => ?_)
          · rw [lg_cmp_gt] at c170
            refine lv_iconst (v := (nI 0)) hx hb dX5_isInTriangle_191 (by decide) ?_
            exact kRz hx hb hr hlocks dX5_isInTriangle_192 (kp0 (by unfold mTri; (try simp only [Int64.lt_iff_toInt_lt, Int64.le_iff_toInt_le, ← Int64.toInt_inj] at c41 c149 c156 c163 c170 ⊢); omega))
          · rw [lg_cmp_gt, Int64.not_lt] at c170
            refine lv_lload hx hb dX5_isInTriangle_173 (lv_at hl 1 rfl) ?_
            refine lv_lconst (v := 0) hx hb dX5_isInTriangle_175 (by decide) ?_
            refine W.lcmp hx hb dX5_isInTriangle_176 ?_
            refine lv_if_gt (tgt := 191) hx hb dX5_isInTriangle_177 (by decide) (fun c177 => ?_) (fun c177 => ?_)
            · rw [lg_cmp_gt] at c177
              refine lv_iconst (v := (nI 0)) hx hb dX5_isInTriangle_191 (by decide) ?_
              exact kRz hx hb hr hlocks dX5_isInTriangle_192 (kp0 (by unfold mTri; (try simp only [Int64.lt_iff_toInt_lt, Int64.le_iff_toInt_le, ← Int64.toInt_inj] at c41 c149 c156 c163 c170 c177 ⊢); omega))
            · rw [lg_cmp_gt, Int64.not_lt] at c177
              refine lv_lload hx hb dX5_isInTriangle_180 (lv_at hl 0 rfl) ?_
              refine lv_lconst (v := 0) hx hb dX5_isInTriangle_182 (by decide) ?_
              refine W.lcmp hx hb dX5_isInTriangle_183 ?_
              refine lv_if_gt (tgt := 191) hx hb dX5_isInTriangle_184 (by decide) (fun c184 => ?_) (fun c184 => ?_)
              · rw [lg_cmp_gt] at c184
                refine lv_iconst (v := (nI 0)) hx hb dX5_isInTriangle_191 (by decide) ?_
                exact kRz hx hb hr hlocks dX5_isInTriangle_192 (kp0 (by unfold mTri; (try simp only [Int64.lt_iff_toInt_lt, Int64.le_iff_toInt_le, ← Int64.toInt_inj] at c41 c149 c156 c163 c170 c177 c184 ⊢); omega))
              · rw [lg_cmp_gt, Int64.not_lt] at c184
                refine lv_iconst (v := (nI 1)) hx hb dX5_isInTriangle_187 (by decide) ?_
                refine lv_goto (tgt := 192) hx hb dX5_isInTriangle_188 (by decide) ?_
                exact kRz hx hb hr hlocks dX5_isInTriangle_192 (kp1 (by unfold mTri; (try simp only [Int64.lt_iff_toInt_lt, Int64.le_iff_toInt_le, ← Int64.toInt_inj] at c41 c149 c156 c163 c170 c177 c184 ⊢); omega))
  · simp only [ne_eq, Decidable.not_not, lg_cmp_eq] at c41
    refine lv_iconst (v := (nI 0)) hx hb dX5_isInTriangle_44 (by decide) ?_
    exact kRz hx hb hr hlocks dX5_isInTriangle_45 (kp0 (by unfold mTri; (try simp only [Int64.lt_iff_toInt_lt, Int64.le_iff_toInt_le, ← Int64.toInt_inj] at c41 ⊢); omega))

/-- a point that is left out -/
def mSkip (fpx fpy : Nat → Int64) (lv : Bool) (x y : Int64) (k : Nat) : Prop := lv = true ∧ fpx k = x ∧ fpy k = y
def mAB (fpx fpy : Nat → Int64) (lv : Bool) (x y : Int64) (to a b : Nat) : Prop := ¬ mSkip fpx fpy lv x y b ∧ (mOn (fpx a) (fpy a) (fpx b) (fpy b) x y ∨ ∃ d, b < d ∧ d < to ∧ ¬ mSkip fpx fpy lv x y d ∧ mTri fpx fpy a b d x y)
def mInA (fpx fpy : Nat → Int64) (lv : Bool) (x y : Int64) (to a : Nat) : Prop := ¬ mSkip fpx fpy lv x y a ∧ ∃ b, a ≤ b ∧ b < to ∧ mAB fpx fpy lv x y to a b
/-- whether some segment or triangle of the points fr .. to - 1 holds x, y -/
def mIn (fpx fpy : Nat → Int64) (lv : Bool) (x y : Int64) (fr to : Nat) : Prop := ∃ a, fr ≤ a ∧ a < to ∧ mInA fpx fpy lv x y to a
set_option maxHeartbeats 4000000 in
set_option maxRecDepth 100000 in
theorem tX5_isInside (l : Launch) (dC : Nat → ClassId) (dI : Nat → Nat → Nat) (cJ cI cZ : ClassId) (om cd ns apx apy act nb asd amv asl apl asw nw aor nc aon atw aup alw nm : Nat) (mx my up lo rx ry : Int64) (fpx : Nat → Int64) (fpy : Nat → Int64) (ct : Nat → Nat) (s_ : Nat) (x y : Int64) (lv : Bool) (hs : s_ < 16) (hc : ct s_ ≤ 16) : PMi l yX5_isInside wsX5_isInside { frames := 2, cells := 0, slots := 0, locals := 64 } [.ref om, .int (nI s_), .long x, .long y, .int (bI lv)] (dC, dI) [(om, .inr (5, [.int (nI cd), .int (nI ns), .ref apx, .ref apy, .ref act, .int (nI nb), .ref asd, .ref amv, .ref asl, .ref apl, .ref asw, .int (nI nw), .ref aor, .int (nI nc), .ref aon, .ref atw, .long mx, .long my, .ref aup, .ref alw, .int (nI nm), .long up, .long lo, .long rx, .long ry])), (apx, .inl (cJ, 256, .inr (.inl fpx))), (apy, .inl (cJ, 256, .inr (.inl fpy))), (act, .inl (cI, 16, .inl (nF ct)))] [(cJ, .long), (cI, .int), (cZ, .boolean)] (bI (pB (mIn fpx fpy lv x y (16 * s_) (16 * s_ + ct s_)))) := by
  refine kOf (cc := cX5_isInside) (maxL := 12) (ret := (some .boolean)) (by decide) rfl (Nat.le_of_ble_eq_true rfl) ?_
  intro p e s m below meth c hx hb hr hml hts hown hlocks hB ls hl
  obtain ⟨hP, hK⟩ := hB
  have hl : lv_has ls 12 [(0, .ref om), (1, .int (nI s_)), (2, .long x), (4, .long y), (6, .int (bI lv))] := hl
  have hi5 : ∀ w ∈ u_ws RX5 TX5 25, w ∈ wsX5_isInside := by decide +kernel
  have f7 := hts (.fieldLink RX5 7 "SweptBoxesModel" "px" "[J") (by decide +kernel)
  have f13 := hts (.fieldLink RX5 13 "SweptBoxesModel" "py" "[J") (by decide +kernel)
  have f16 := hts (.fieldLink RX5 16 "SweptBoxesModel" "counts" "[I") (by decide +kernel)
  refine lv_bipush (v := (nI 16)) hx hb dX5_isInside_0 (by decide) ?_
  refine lv_iload_n hx hb dX5_isInside_2 rfl (lv_at hl 1 rfl) ?_
  refine lv_imul hx hb dX5_isInside_3 ?_
  rw [show (nI 16) * (nI s_) = (nI (16 * s_)) from pk_mul 16 s_]
  refine lv_istore (lv' := [(7, .int (nI (16 * s_))), (0, .ref om), (1, .int (nI s_)), (2, .long x), (4, .long y), (6, .int (bI lv))]) hx hb dX5_isInside_4 hl (by decide) rfl (fun ls hl => ?_)
  refine lv_iload hx hb dX5_isInside_6 (lv_at hl 0 rfl) ?_
  refine lv_aload_n hx hb dX5_isInside_8 rfl (lv_at hl 1 rfl) ?_
  refine va_get (D := (dC, dI)) (ci := 5) (v := .ref act) (C := RX5) (T := TX5) (N := 25) hx hb hts hi5 hown hK hP 0 rfl rfl 4 (by decide) f16 (fun _ h9 => h9) rfl dX5_isInside_9 ?_
  refine lv_iload_n hx hb dX5_isInside_12 rfl (lv_at hl 2 rfl) ?_
  refine va_iald hx hb hK hP 3 1 rfl rfl (vp_in_nI (show s_ < 16 by omega) (by omega)) dX5_isInside_13 ?_
  rw [show (nI s_).toNatClampNeg = s_ from nI_clamp (show s_ < 2 ^ 31 by omega)]
  rw [show (nF ct) s_ = (nI (ct s_)) from rfl]
  refine lv_iadd hx hb dX5_isInside_14 ?_
  rw [show (nI (16 * s_)) + (nI (ct s_)) = (nI (((16 * s_)) + ((ct s_)))) from nI_add ((16 * s_)) ((ct s_))]
  refine lv_istore (lv' := [(8, .int (nI (((16 * s_)) + ((ct s_))))), (7, .int (nI (16 * s_))), (0, .ref om), (1, .int (nI s_)), (2, .long x), (4, .long y), (6, .int (bI lv))]) hx hb dX5_isInside_15 hl (by decide) rfl (fun ls hl => ?_)
  refine lv_iload hx hb dX5_isInside_17 (lv_at hl 1 rfl) ?_
  refine lv_istore (lv' := [(9, .int (nI (16 * s_))), (8, .int (nI (((16 * s_)) + ((ct s_))))), (7, .int (nI (16 * s_))), (0, .ref om), (1, .int (nI s_)), (2, .long x), (4, .long y), (6, .int (bI lv))]) hx hb dX5_isInside_19 hl (by decide) rfl (fun ls hl => ?_)
  refine kLoop (σ := Nat) (fun xz H locs ls => match xz with | a => (H = s.heap) ∧ (locs = []) ∧ (lv_has ls 12 [(0, .ref om), (1, .int (nI s_)), (2, .long x), (4, .long y), (6, .int (bI lv)), (7, .int (nI (16 * s_))), (8, .int (nI (16 * s_ + ct s_))), (9, .int (nI a))]) ∧ (16 * s_ ≤ a ∧ a ≤ 16 * s_ + ct s_ ∧ ∀ j, 16 * s_ ≤ j → j < a → ¬ mInA fpx fpy lv x y (16 * s_ + ct s_) j)) (fun xz => match xz with | a => 16 * s_ + ct s_ - a) ?_ (16 * s_) ?_
  · rintro a H locs ls hI ih21
    obtain ⟨hHe, hLe, hl, hi21_⟩ := hI
    subst hHe
    subst hLe
    obtain ⟨hfa, hat, hA⟩ := hi21_
    refine lv_iload hx hb dX5_isInside_21 (lv_at hl 7 rfl) ?_
    refine lv_iload hx hb dX5_isInside_23 (lv_at hl 6 rfl) ?_
    refine lv_icmp_ge (tgt := 223) hx hb dX5_isInside_25 (by decide) (fun c25 => ?_) (fun c25 => ?_)
    · rw [nI_leI (by omega) (by omega)] at c25
      refine lv_iconst (v := (nI 0)) hx hb dX5_isInside_223 (by decide) ?_
      exact kRz hx hb hr hlocks dX5_isInside_224 (kp0 (fun h => by obtain ⟨j, h1, h2, h3⟩ := h; exact hA j h1 (by omega) h3))
    · rw [nI_leI (by omega) (by omega), Nat.not_le] at c25
      refine lv_iload hx hb dX5_isInside_28 (lv_at hl 4 rfl) ?_
      refine lv_if_eq (tgt := 61) hx hb dX5_isInside_30 (by decide) (fun c30 => ?_) (fun c30 => ?_)
      · replace c30 := bI_0 c30
        have hSa : ¬ mSkip fpx fpy lv x y a := by first | exact (fun h => absurd (h.1.symm.trans c30) (by decide)) | exact (fun h => c42 h.2.1) | exact (fun h => c55 h.2.2)
        refine lv_iload hx hb dX5_isInside_61 (lv_at hl 7 rfl) ?_
        refine lv_istore (lv' := [(10, .int (nI a)), (0, .ref om), (1, .int (nI s_)), (2, .long x), (4, .long y), (6, .int (bI lv)), (7, .int (nI (16 * s_))), (8, .int (nI (16 * s_ + ct s_))), (9, .int (nI a))]) hx hb dX5_isInside_63 hl (by decide) rfl (fun ls hl => ?_)
        refine kLoop (σ := Nat) (fun xz H locs ls => match xz with | b => (H = s.heap) ∧ (locs = []) ∧ (lv_has ls 12 [(0, .ref om), (1, .int (nI s_)), (2, .long x), (4, .long y), (6, .int (bI lv)), (7, .int (nI (16 * s_))), (8, .int (nI (16 * s_ + ct s_))), (9, .int (nI a)), (10, .int (nI b))]) ∧ (a ≤ b ∧ b ≤ 16 * s_ + ct s_ ∧ ∀ j, a ≤ j → j < b → ¬ mAB fpx fpy lv x y (16 * s_ + ct s_) a j)) (fun xz => match xz with | b => 16 * s_ + ct s_ - b) ?_ (a) ?_
        · rintro b H locs ls hI ih65
          obtain ⟨hHe, hLe, hl, hi65_⟩ := hI
          subst hHe
          subst hLe
          obtain ⟨hab, hbt, hB⟩ := hi65_
          refine lv_iload hx hb dX5_isInside_65 (lv_at hl 8 rfl) ?_
          refine lv_iload hx hb dX5_isInside_67 (lv_at hl 6 rfl) ?_
          refine lv_icmp_ge (tgt := 217) hx hb dX5_isInside_69 (by decide) (fun c69 => ?_) (fun c69 => ?_)
          · rw [nI_leI (by omega) (by omega)] at c69
            refine lv_iinc (v := (nI (a + 1))) (lv' := [(9, .int (nI (a + 1))), (0, .ref om), (1, .int (nI s_)), (2, .long x), (4, .long y), (6, .int (bI lv)), (7, .int (nI (16 * s_))), (8, .int (nI (16 * s_ + ct s_))), (10, .int (nI b))]) hx hb dX5_isInside_217 hl (k := 7) rfl (show (nI a) + Int32.ofInt 1 = nI (a + 1) from nI_add a 1) (by decide) rfl (fun ls hl => ?_)
            refine lv_goto (tgt := 21) hx hb dX5_isInside_220 (by decide) ?_
            exact ih21 (a + 1) _ _ _ ⟨rfl, rfl, lv_sub hl [1, 2, 3, 4, 5, 6, 7, 0] rfl, ⟨by omega, by omega, fun j h1 h2 => by rcases Nat.lt_or_ge j a with h | h; exact hA j h1 h; rw [show j = a by omega]; first | exact (fun z => z.1 ⟨c30, c42, c55⟩) | (rintro ⟨-, w, w1, w2, w3⟩; exact hB w w1 (by omega) w3)⟩⟩ (by simp only []; omega)
          · rw [nI_leI (by omega) (by omega), Nat.not_le] at c69
            refine lv_iload hx hb dX5_isInside_72 (lv_at hl 4 rfl) ?_
            refine lv_if_eq (tgt := 105) hx hb dX5_isInside_74 (by decide) (fun c74 => ?_) (fun c74 => ?_)
            · replace c74 := bI_0 c74
              have hSb : ¬ mSkip fpx fpy lv x y b := by first | exact (fun h => absurd (h.1.symm.trans c74) (by decide)) | exact (fun h => c86 h.2.1) | exact (fun h => c99 h.2.2)
              refine lv_aload_n hx hb dX5_isInside_105 rfl (lv_at hl 0 rfl) ?_
              refine va_get (D := (dC, dI)) (ci := 5) (v := .ref apx) (C := RX5) (T := TX5) (N := 25) hx hb hts hi5 hown hK hP 0 rfl rfl 2 (by decide) f7 (fun _ h9 => h9) rfl dX5_isInside_106 ?_
              refine lv_iload hx hb dX5_isInside_109 (lv_at hl 7 rfl) ?_
              refine va_lald hx hb hK hP 1 0 rfl rfl (vp_in_nI (show a < 256 by omega) (by omega)) dX5_isInside_111 ?_
              rw [show (nI a).toNatClampNeg = a from nI_clamp (show a < 2 ^ 31 by omega)]
              refine lv_aload_n hx hb dX5_isInside_112 rfl (lv_at hl 0 rfl) ?_
              refine va_get (D := (dC, dI)) (ci := 5) (v := .ref apy) (C := RX5) (T := TX5) (N := 25) hx hb hts hi5 hown hK hP 0 rfl rfl 3 (by decide) f13 (fun _ h9 => h9) rfl dX5_isInside_113 ?_
              refine lv_iload hx hb dX5_isInside_116 (lv_at hl 7 rfl) ?_
              refine va_lald hx hb hK hP 2 0 rfl rfl (vp_in_nI (show a < 256 by omega) (by omega)) dX5_isInside_118 ?_
              rw [show (nI a).toNatClampNeg = a from nI_clamp (show a < 2 ^ 31 by omega)]
              refine lv_aload_n hx hb dX5_isInside_119 rfl (lv_at hl 0 rfl) ?_
              refine va_get (D := (dC, dI)) (ci := 5) (v := .ref apx) (C := RX5) (T := TX5) (N := 25) hx hb hts hi5 hown hK hP 0 rfl rfl 2 (by decide) f7 (fun _ h9 => h9) rfl dX5_isInside_120 ?_
              refine lv_iload hx hb dX5_isInside_123 (lv_at hl 8 rfl) ?_
              refine va_lald hx hb hK hP 1 0 rfl rfl (vp_in_nI (show b < 256 by omega) (by omega)) dX5_isInside_125 ?_
              rw [show (nI b).toNatClampNeg = b from nI_clamp (show b < 2 ^ 31 by omega)]
              refine lv_aload_n hx hb dX5_isInside_126 rfl (lv_at hl 0 rfl) ?_
              refine va_get (D := (dC, dI)) (ci := 5) (v := .ref apy) (C := RX5) (T := TX5) (N := 25) hx hb hts hi5 hown hK hP 0 rfl rfl 3 (by decide) f13 (fun _ h9 => h9) rfl dX5_isInside_127 ?_
              refine lv_iload hx hb dX5_isInside_130 (lv_at hl 8 rfl) ?_
              refine va_lald hx hb hK hP 2 0 rfl rfl (vp_in_nI (show b < 256 by omega) (by omega)) dX5_isInside_132 ?_
              rw [show (nI b).toNatClampNeg = b from nI_clamp (show b < 2 ^ 31 by omega)]
              refine lv_lload_n hx hb dX5_isInside_133 rfl (lv_at hl 2 rfl) ?_
              refine lv_lload hx hb dX5_isInside_134 (lv_at hl 3 rfl) ?_
              refine kpSi (As := [.long (fpx a), .long (fpy a), .long (fpx b), .long (fpy b), .long x, .long y]) (rest := []) (WC := []) (tyC := []) ⟨hx, hb, hml, hown, hts⟩ (tX5_isOn l dC dI (fpx a) (fpy a) (fpx b) (fpy b) x y) (cwS 6 hts gX5_isInside_X5_isOn rfl rfl rfl (by decide +kernel) ⟨Nat.le_of_ble_eq_true rfl, Nat.le_of_ble_eq_true rfl⟩) (kPick (isC := []) hP rfl) (hK.sub [] rfl) rfl rfl hl.1 (Nat.le_of_ble_eq_true rfl) dX5_isInside_136 ⟨Nat.le_of_ble_eq_true rfl, Nat.le_of_ble_eq_true rfl⟩ ?_
              refine lv_if_eq (tgt := 144) hx hb dX5_isInside_139 (by decide) (fun c139 => ?_) (fun c139 => ?_)
              · replace c139 := bI_0 c139; replace c139 := pB_not c139
                refine lv_iload hx hb dX5_isInside_144 (lv_at hl 8 rfl) ?_
                refine lv_iconst (v := (nI 1)) hx hb dX5_isInside_146 (by decide) ?_
                refine lv_iadd hx hb dX5_isInside_147 ?_
                rw [show (nI b) + (nI 1) = (nI (b + 1)) from nI_add b 1]
                refine lv_istore (lv' := [(11, .int (nI (b + 1))), (0, .ref om), (1, .int (nI s_)), (2, .long x), (4, .long y), (6, .int (bI lv)), (7, .int (nI (16 * s_))), (8, .int (nI (16 * s_ + ct s_))), (9, .int (nI a)), (10, .int (nI b))]) hx hb dX5_isInside_148 hl (by decide) rfl (fun ls hl => ?_)
                refine kLoop (σ := Nat) (fun xz H locs ls => match xz with | d => (H = s.heap) ∧ (locs = []) ∧ (lv_has ls 12 [(0, .ref om), (1, .int (nI s_)), (2, .long x), (4, .long y), (6, .int (bI lv)), (7, .int (nI (16 * s_))), (8, .int (nI (16 * s_ + ct s_))), (9, .int (nI a)), (10, .int (nI b)), (11, .int (nI d))]) ∧ (b < d ∧ d ≤ 16 * s_ + ct s_ ∧ ∀ j, b < j → j < d → ¬ (¬ mSkip fpx fpy lv x y j ∧ mTri fpx fpy a b j x y))) (fun xz => match xz with | d => 16 * s_ + ct s_ - d) ?_ (b + 1) ?_
                · rintro d H locs ls hI ih150
                  obtain ⟨hHe, hLe, hl, hi150_⟩ := hI
                  subst hHe
                  subst hLe
                  obtain ⟨hbd, hdt, hC⟩ := hi150_
                  refine lv_iload hx hb dX5_isInside_150 (lv_at hl 9 rfl) ?_
                  refine lv_iload hx hb dX5_isInside_152 (lv_at hl 6 rfl) ?_
                  refine lv_icmp_ge (tgt := 211) hx hb dX5_isInside_154 (by decide) (fun c154 => ?_) (fun c154 => ?_)
                  · rw [nI_leI (by omega) (by omega)] at c154
                    refine lv_iinc (v := (nI (b + 1))) (lv' := [(10, .int (nI (b + 1))), (0, .ref om), (1, .int (nI s_)), (2, .long x), (4, .long y), (6, .int (bI lv)), (7, .int (nI (16 * s_))), (8, .int (nI (16 * s_ + ct s_))), (9, .int (nI a)), (11, .int (nI d))]) hx hb dX5_isInside_211 hl (k := 8) rfl (show (nI b) + Int32.ofInt 1 = nI (b + 1) from nI_add b 1) (by decide) rfl (fun ls hl => ?_)
                    refine lv_goto (tgt := 65) hx hb dX5_isInside_214 (by decide) ?_
                    exact ih65 (b + 1) _ _ _ ⟨rfl, rfl, lv_sub hl [1, 2, 3, 4, 5, 6, 7, 8, 0] rfl, ⟨by omega, by omega, fun j h1 h2 => by rcases Nat.lt_or_ge j b with h | h; exact hB j h1 h; rw [show j = b by omega]; first | exact (fun z => z.1 ⟨c74, c86, c99⟩) | exact (fun z => z.2.elim c139 (fun ⟨w, w1, w2, w3⟩ => hC w w1 (by omega) w3))⟩⟩ (by simp only []; omega)
                  · rw [nI_leI (by omega) (by omega), Nat.not_le] at c154
                    refine lv_iload hx hb dX5_isInside_157 (lv_at hl 4 rfl) ?_
                    refine lv_if_eq (tgt := 187) hx hb dX5_isInside_159 (by decide) (fun c159 => ?_) (fun c159 => ?_)
                    · replace c159 := bI_0 c159
                      have hSd : ¬ mSkip fpx fpy lv x y d := by first | exact (fun h => absurd (h.1.symm.trans c159) (by decide)) | exact (fun h => c171 h.2.1) | exact (fun h => c184 h.2.2)
                      refine lv_aload_n hx hb dX5_isInside_187 rfl (lv_at hl 0 rfl) ?_
                      refine lv_iload hx hb dX5_isInside_188 (lv_at hl 7 rfl) ?_
                      refine lv_iload hx hb dX5_isInside_190 (lv_at hl 8 rfl) ?_
                      refine lv_iload hx hb dX5_isInside_192 (lv_at hl 9 rfl) ?_
                      refine lv_lload_n hx hb dX5_isInside_194 rfl (lv_at hl 2 rfl) ?_
                      refine lv_lload hx hb dX5_isInside_195 (lv_at hl 3 rfl) ?_
                      refine kpVi (q0 := 0) (ci := 5) (As := [.int (nI a), .int (nI b), .int (nI d), .long x, .long y]) (rest := []) (WC := [(om, .inr (5, [.int (nI cd), .int (nI ns), .ref apx, .ref apy, .ref act, .int (nI nb), .ref asd, .ref amv, .ref asl, .ref apl, .ref asw, .int (nI nw), .ref aor, .int (nI nc), .ref aon, .ref atw, .long mx, .long my, .ref aup, .ref alw, .int (nI nm), .long up, .long lo, .long rx, .long ry])), (apx, .inl (cJ, 256, .inr (.inl fpx))), (apy, .inl (cJ, 256, .inr (.inl fpy)))]) (tyC := [(cJ, .long), (cI, .int), (cZ, .boolean)]) ⟨hx, hb, hml, hown, hts⟩ (tX5_isInTriangle l dC dI cJ cI cZ om cd ns apx apy act nb asd amv asl apl asw nw aor nc aon atw aup alw nm mx my up lo rx ry fpx fpy a b d x y (by omega) (by omega) (by omega)) (cwV 5 hts gX5_isInside_X5_isInTriangle rfl rfl rfl (by decide +kernel) ⟨Nat.le_of_ble_eq_true rfl, Nat.le_of_ble_eq_true rfl⟩) (kPick (isC := [0, 1, 2]) hP rfl) (hK.sub [0, 1, 2] rfl) rfl rfl rfl rfl hl.1 (Nat.le_of_ble_eq_true rfl) dX5_isInside_197 ⟨Nat.le_of_ble_eq_true rfl, Nat.le_of_ble_eq_true rfl⟩ ?_
                      refine lv_if_eq (tgt := 205) hx hb dX5_isInside_200 (by decide) (fun c200 => ?_) (fun c200 => ?_)
                      · replace c200 := bI_0 c200; replace c200 := pB_not c200
                        refine lv_iinc (v := (nI (d + 1))) (lv' := [(11, .int (nI (d + 1))), (0, .ref om), (1, .int (nI s_)), (2, .long x), (4, .long y), (6, .int (bI lv)), (7, .int (nI (16 * s_))), (8, .int (nI (16 * s_ + ct s_))), (9, .int (nI a)), (10, .int (nI b))]) hx hb dX5_isInside_205 hl (k := 9) rfl (show (nI d) + Int32.ofInt 1 = nI (d + 1) from nI_add d 1) (by decide) rfl (fun ls hl => ?_)
                        refine lv_goto (tgt := 150) hx hb dX5_isInside_208 (by decide) ?_
                        exact ih150 (d + 1) _ _ _ ⟨rfl, rfl, lv_sub hl [1, 2, 3, 4, 5, 6, 7, 8, 9, 0] rfl, ⟨by omega, by omega, fun j h1 h2 => by rcases Nat.lt_or_ge j d with h | h; exact hC j h1 h; rw [show j = d by omega]; first | exact (fun z => z.1 ⟨c159, c171, c184⟩) | exact (fun z => c200 z.2)⟩⟩ (by simp only []; omega)
                      · replace c200 := bI_n c200; replace c200 := pB_iff.mp c200
                        refine lv_iconst (v := (nI 1)) hx hb dX5_isInside_203 (by decide) ?_
                        exact kRz hx hb hr hlocks dX5_isInside_204 (kp1 ⟨a, hfa, c25, hSa, b, hab, c69, hSb, Or.inr ⟨d, hbd, c154, hSd, c200⟩⟩)
                    · replace c159 := bI_n c159
                      refine lv_aload_n hx hb dX5_isInside_162 rfl (lv_at hl 0 rfl) ?_
                      refine va_get (D := (dC, dI)) (ci := 5) (v := .ref apx) (C := RX5) (T := TX5) (N := 25) hx hb hts hi5 hown hK hP 0 rfl rfl 2 (by decide) f7 (fun _ h9 => h9) rfl dX5_isInside_163 ?_
                      refine lv_iload hx hb dX5_isInside_166 (lv_at hl 9 rfl) ?_
                      refine va_lald hx hb hK hP 1 0 rfl rfl (vp_in_nI (show d < 256 by omega) (by omega)) dX5_isInside_168 ?_
                      rw [show (nI d).toNatClampNeg = d from nI_clamp (show d < 2 ^ 31 by omega)]
                      refine lv_lload_n hx hb dX5_isInside_169 rfl (lv_at hl 2 rfl) ?_
                      refine W.lcmp hx hb dX5_isInside_170 ?_
                      refine lv_if_ne (tgt := 187) hx hb dX5_isInside_171 (by decide) (fun c171 => ?_) (fun c171 => ?_)
                      · simp only [ne_eq, lg_cmp_eq] at c171
                        have hSd : ¬ mSkip fpx fpy lv x y d := by first | exact (fun h => absurd (h.1.symm.trans c159) (by decide)) | exact (fun h => c171 h.2.1) | exact (fun h => c184 h.2.2)
                        refine lv_aload_n hx hb dX5_isInside_187 rfl (lv_at hl 0 rfl) ?_
                        refine lv_iload hx hb dX5_isInside_188 (lv_at hl 7 rfl) ?_
                        refine lv_iload hx hb dX5_isInside_190 (lv_at hl 8 rfl) ?_
                        refine lv_iload hx hb dX5_isInside_192 (lv_at hl 9 rfl) ?_
                        refine lv_lload_n hx hb dX5_isInside_194 rfl (lv_at hl 2 rfl) ?_
                        refine lv_lload hx hb dX5_isInside_195 (lv_at hl 3 rfl) ?_
                        refine kpVi (q0 := 0) (ci := 5) (As := [.int (nI a), .int (nI b), .int (nI d), .long x, .long y]) (rest := []) (WC := [(om, .inr (5, [.int (nI cd), .int (nI ns), .ref apx, .ref apy, .ref act, .int (nI nb), .ref asd, .ref amv, .ref asl, .ref apl, .ref asw, .int (nI nw), .ref aor, .int (nI nc), .ref aon, .ref atw, .long mx, .long my, .ref aup, .ref alw, .int (nI nm), .long up, .long lo, .long rx, .long ry])), (apx, .inl (cJ, 256, .inr (.inl fpx))), (apy, .inl (cJ, 256, .inr (.inl fpy)))]) (tyC := [(cJ, .long), (cI, .int), (cZ, .boolean)]) ⟨hx, hb, hml, hown, hts⟩ (tX5_isInTriangle l dC dI cJ cI cZ om cd ns apx apy act nb asd amv asl apl asw nw aor nc aon atw aup alw nm mx my up lo rx ry fpx fpy a b d x y (by omega) (by omega) (by omega)) (cwV 5 hts gX5_isInside_X5_isInTriangle rfl rfl rfl (by decide +kernel) ⟨Nat.le_of_ble_eq_true rfl, Nat.le_of_ble_eq_true rfl⟩) (kPick (isC := [0, 1, 2]) hP rfl) (hK.sub [0, 1, 2] rfl) rfl rfl rfl rfl hl.1 (Nat.le_of_ble_eq_true rfl) dX5_isInside_197 ⟨Nat.le_of_ble_eq_true rfl, Nat.le_of_ble_eq_true rfl⟩ ?_
                        refine lv_if_eq (tgt := 205) hx hb dX5_isInside_200 (by decide) (fun c200 => ?_) (fun c200 => ?_)
                        · replace c200 := bI_0 c200; replace c200 := pB_not c200
                          refine lv_iinc (v := (nI (d + 1))) (lv' := [(11, .int (nI (d + 1))), (0, .ref om), (1, .int (nI s_)), (2, .long x), (4, .long y), (6, .int (bI lv)), (7, .int (nI (16 * s_))), (8, .int (nI (16 * s_ + ct s_))), (9, .int (nI a)), (10, .int (nI b))]) hx hb dX5_isInside_205 hl (k := 9) rfl (show (nI d) + Int32.ofInt 1 = nI (d + 1) from nI_add d 1) (by decide) rfl (fun ls hl => ?_)
                          refine lv_goto (tgt := 150) hx hb dX5_isInside_208 (by decide) ?_
                          exact ih150 (d + 1) _ _ _ ⟨rfl, rfl, lv_sub hl [1, 2, 3, 4, 5, 6, 7, 8, 9, 0] rfl, ⟨by omega, by omega, fun j h1 h2 => by rcases Nat.lt_or_ge j d with h | h; exact hC j h1 h; rw [show j = d by omega]; first | exact (fun z => z.1 ⟨c159, c171, c184⟩) | exact (fun z => c200 z.2)⟩⟩ (by simp only []; omega)
                        · replace c200 := bI_n c200; replace c200 := pB_iff.mp c200
                          refine lv_iconst (v := (nI 1)) hx hb dX5_isInside_203 (by decide) ?_
                          exact kRz hx hb hr hlocks dX5_isInside_204 (kp1 ⟨a, hfa, c25, hSa, b, hab, c69, hSb, Or.inr ⟨d, hbd, c154, hSd, c200⟩⟩)
                      · simp only [ne_eq, Decidable.not_not, lg_cmp_eq] at c171
                        refine lv_aload_n hx hb dX5_isInside_174 rfl (lv_at hl 0 rfl) ?_
                        refine va_get (D := (dC, dI)) (ci := 5) (v := .ref apy) (C := RX5) (T := TX5) (N := 25) hx hb hts hi5 hown hK hP 0 rfl rfl 3 (by decide) f13 (fun _ h9 => h9) rfl dX5_isInside_175 ?_
                        refine lv_iload hx hb dX5_isInside_178 (lv_at hl 9 rfl) ?_
                        refine va_lald hx hb hK hP 2 0 rfl rfl (vp_in_nI (show d < 256 by omega) (by omega)) dX5_isInside_180 ?_
                        rw [show (nI d).toNatClampNeg = d from nI_clamp (show d < 2 ^ 31 by omega)]
                        refine lv_lload hx hb dX5_isInside_181 (lv_at hl 3 rfl) ?_
                        refine W.lcmp hx hb dX5_isInside_183 ?_
                        refine lv_if_eq (tgt := 205) hx hb dX5_isInside_184 (by decide) (fun c184 => ?_) (fun c184 => ?_)
                        · rw [lg_cmp_eq] at c184
                          refine lv_iinc (v := (nI (d + 1))) (lv' := [(11, .int (nI (d + 1))), (0, .ref om), (1, .int (nI s_)), (2, .long x), (4, .long y), (6, .int (bI lv)), (7, .int (nI (16 * s_))), (8, .int (nI (16 * s_ + ct s_))), (9, .int (nI a)), (10, .int (nI b))]) hx hb dX5_isInside_205 hl (k := 9) rfl (show (nI d) + Int32.ofInt 1 = nI (d + 1) from nI_add d 1) (by decide) rfl (fun ls hl => ?_)
                          refine lv_goto (tgt := 150) hx hb dX5_isInside_208 (by decide) ?_
                          exact ih150 (d + 1) _ _ _ ⟨rfl, rfl, lv_sub hl [1, 2, 3, 4, 5, 6, 7, 8, 9, 0] rfl, ⟨by omega, by omega, fun j h1 h2 => by rcases Nat.lt_or_ge j d with h | h; exact hC j h1 h; rw [show j = d by omega]; first | exact (fun z => z.1 ⟨c159, c171, c184⟩) | exact (fun z => c200 z.2)⟩⟩ (by simp only []; omega)
                        · rw [lg_cmp_eq] at c184
                          have hSd : ¬ mSkip fpx fpy lv x y d := by first | exact (fun h => absurd (h.1.symm.trans c159) (by decide)) | exact (fun h => c171 h.2.1) | exact (fun h => c184 h.2.2)
                          refine lv_aload_n hx hb dX5_isInside_187 rfl (lv_at hl 0 rfl) ?_
                          refine lv_iload hx hb dX5_isInside_188 (lv_at hl 7 rfl) ?_
                          refine lv_iload hx hb dX5_isInside_190 (lv_at hl 8 rfl) ?_
                          refine lv_iload hx hb dX5_isInside_192 (lv_at hl 9 rfl) ?_
                          refine lv_lload_n hx hb dX5_isInside_194 rfl (lv_at hl 2 rfl) ?_
                          refine lv_lload hx hb dX5_isInside_195 (lv_at hl 3 rfl) ?_
                          refine kpVi (q0 := 0) (ci := 5) (As := [.int (nI a), .int (nI b), .int (nI d), .long x, .long y]) (rest := []) (WC := [(om, .inr (5, [.int (nI cd), .int (nI ns), .ref apx, .ref apy, .ref act, .int (nI nb), .ref asd, .ref amv, .ref asl, .ref apl, .ref asw, .int (nI nw), .ref aor, .int (nI nc), .ref aon, .ref atw, .long mx, .long my, .ref aup, .ref alw, .int (nI nm), .long up, .long lo, .long rx, .long ry])), (apx, .inl (cJ, 256, .inr (.inl fpx))), (apy, .inl (cJ, 256, .inr (.inl fpy)))]) (tyC := [(cJ, .long), (cI, .int), (cZ, .boolean)]) ⟨hx, hb, hml, hown, hts⟩ (tX5_isInTriangle l dC dI cJ cI cZ om cd ns apx apy act nb asd amv asl apl asw nw aor nc aon atw aup alw nm mx my up lo rx ry fpx fpy a b d x y (by omega) (by omega) (by omega)) (cwV 5 hts gX5_isInside_X5_isInTriangle rfl rfl rfl (by decide +kernel) ⟨Nat.le_of_ble_eq_true rfl, Nat.le_of_ble_eq_true rfl⟩) (kPick (isC := [0, 1, 2]) hP rfl) (hK.sub [0, 1, 2] rfl) rfl rfl rfl rfl hl.1 (Nat.le_of_ble_eq_true rfl) dX5_isInside_197 ⟨Nat.le_of_ble_eq_true rfl, Nat.le_of_ble_eq_true rfl⟩ ?_
                          refine lv_if_eq (tgt := 205) hx hb dX5_isInside_200 (by decide) (fun c200 => ?_) (fun c200 => ?_)
                          · replace c200 := bI_0 c200; replace c200 := pB_not c200
                            refine lv_iinc (v := (nI (d + 1))) (lv' := [(11, .int (nI (d + 1))), (0, .ref om), (1, .int (nI s_)), (2, .long x), (4, .long y), (6, .int (bI lv)), (7, .int (nI (16 * s_))), (8, .int (nI (16 * s_ + ct s_))), (9, .int (nI a)), (10, .int (nI b))]) hx hb dX5_isInside_205 hl (k := 9) rfl (show (nI d) + Int32.ofInt 1 = nI (d + 1) from nI_add d 1) (by decide) rfl (fun ls hl => ?_)
                            refine lv_goto (tgt := 150) hx hb dX5_isInside_208 (by decide) ?_
                            exact ih150 (d + 1) _ _ _ ⟨rfl, rfl, lv_sub hl [1, 2, 3, 4, 5, 6, 7, 8, 9, 0] rfl, ⟨by omega, by omega, fun j h1 h2 => by rcases Nat.lt_or_ge j d with h | h; exact hC j h1 h; rw [show j = d by omega]; first | exact (fun z => z.1 ⟨c159, c171, c184⟩) | exact (fun z => c200 z.2)⟩⟩ (by simp only []; omega)
                          · replace c200 := bI_n c200; replace c200 := pB_iff.mp c200
                            refine lv_iconst (v := (nI 1)) hx hb dX5_isInside_203 (by decide) ?_
                            exact kRz hx hb hr hlocks dX5_isInside_204 (kp1 ⟨a, hfa, c25, hSa, b, hab, c69, hSb, Or.inr ⟨d, hbd, c154, hSd, c200⟩⟩)
                · exact ⟨rfl, rfl, lv_sub hl [1, 2, 3, 4, 5, 6, 7, 8, 9, 0] rfl, ⟨by omega, by omega, fun j h1 h2 => absurd h2 (by omega)⟩⟩
              · replace c139 := bI_n c139; replace c139 := pB_iff.mp c139
                refine lv_iconst (v := (nI 1)) hx hb dX5_isInside_142 (by decide) ?_
                exact kRz hx hb hr hlocks dX5_isInside_143 (kp1 ⟨a, hfa, c25, hSa, b, hab, c69, hSb, Or.inl c139⟩)
            · replace c74 := bI_n c74
              refine lv_aload_n hx hb dX5_isInside_77 rfl (lv_at hl 0 rfl) ?_
              refine va_get (D := (dC, dI)) (ci := 5) (v := .ref apx) (C := RX5) (T := TX5) (N := 25) hx hb hts hi5 hown hK hP 0 rfl rfl 2 (by decide) f7 (fun _ h9 => h9) rfl dX5_isInside_78 ?_
              refine lv_iload hx hb dX5_isInside_81 (lv_at hl 8 rfl) ?_
              refine va_lald hx hb hK hP 1 0 rfl rfl (vp_in_nI (show b < 256 by omega) (by omega)) dX5_isInside_83 ?_
              rw [show (nI b).toNatClampNeg = b from nI_clamp (show b < 2 ^ 31 by omega)]
              refine lv_lload_n hx hb dX5_isInside_84 rfl (lv_at hl 2 rfl) ?_
              refine W.lcmp hx hb dX5_isInside_85 ?_
              refine lv_if_ne (tgt := 105) hx hb dX5_isInside_86 (by decide) (fun c86 => ?_) (fun c86 => ?_)
              · simp only [ne_eq, lg_cmp_eq] at c86
                have hSb : ¬ mSkip fpx fpy lv x y b := by first | exact (fun h => absurd (h.1.symm.trans c74) (by decide)) | exact (fun h => c86 h.2.1) | exact (fun h => c99 h.2.2)
                refine lv_aload_n hx hb dX5_isInside_105 rfl (lv_at hl 0 rfl) ?_
                refine va_get (D := (dC, dI)) (ci := 5) (v := .ref apx) (C := RX5) (T := TX5) (N := 25) hx hb hts hi5 hown hK hP 0 rfl rfl 2 (by decide) f7 (fun _ h9 => h9) rfl dX5_isInside_106 ?_
                refine lv_iload hx hb dX5_isInside_109 (lv_at hl 7 rfl) ?_
                refine va_lald hx hb hK hP 1 0 rfl rfl (vp_in_nI (show a < 256 by omega) (by omega)) dX5_isInside_111 ?_
                rw [show (nI a).toNatClampNeg = a from nI_clamp (show a < 2 ^ 31 by omega)]
                refine lv_aload_n hx hb dX5_isInside_112 rfl (lv_at hl 0 rfl) ?_
                refine va_get (D := (dC, dI)) (ci := 5) (v := .ref apy) (C := RX5) (T := TX5) (N := 25) hx hb hts hi5 hown hK hP 0 rfl rfl 3 (by decide) f13 (fun _ h9 => h9) rfl dX5_isInside_113 ?_
                refine lv_iload hx hb dX5_isInside_116 (lv_at hl 7 rfl) ?_
                refine va_lald hx hb hK hP 2 0 rfl rfl (vp_in_nI (show a < 256 by omega) (by omega)) dX5_isInside_118 ?_
                rw [show (nI a).toNatClampNeg = a from nI_clamp (show a < 2 ^ 31 by omega)]
                refine lv_aload_n hx hb dX5_isInside_119 rfl (lv_at hl 0 rfl) ?_
                refine va_get (D := (dC, dI)) (ci := 5) (v := .ref apx) (C := RX5) (T := TX5) (N := 25) hx hb hts hi5 hown hK hP 0 rfl rfl 2 (by decide) f7 (fun _ h9 => h9) rfl dX5_isInside_120 ?_
                refine lv_iload hx hb dX5_isInside_123 (lv_at hl 8 rfl) ?_
                refine va_lald hx hb hK hP 1 0 rfl rfl (vp_in_nI (show b < 256 by omega) (by omega)) dX5_isInside_125 ?_
                rw [show (nI b).toNatClampNeg = b from nI_clamp (show b < 2 ^ 31 by omega)]
                refine lv_aload_n hx hb dX5_isInside_126 rfl (lv_at hl 0 rfl) ?_
                refine va_get (D := (dC, dI)) (ci := 5) (v := .ref apy) (C := RX5) (T := TX5) (N := 25) hx hb hts hi5 hown hK hP 0 rfl rfl 3 (by decide) f13 (fun _ h9 => h9) rfl dX5_isInside_127 ?_
                refine lv_iload hx hb dX5_isInside_130 (lv_at hl 8 rfl) ?_
                refine va_lald hx hb hK hP 2 0 rfl rfl (vp_in_nI (show b < 256 by omega) (by omega)) dX5_isInside_132 ?_
                rw [show (nI b).toNatClampNeg = b from nI_clamp (show b < 2 ^ 31 by omega)]
                refine lv_lload_n hx hb dX5_isInside_133 rfl (lv_at hl 2 rfl) ?_
                refine lv_lload hx hb dX5_isInside_134 (lv_at hl 3 rfl) ?_
                refine kpSi (As := [.long (fpx a), .long (fpy a), .long (fpx b), .long (fpy b), .long x, .long y]) (rest := []) (WC := []) (tyC := []) ⟨hx, hb, hml, hown, hts⟩ (tX5_isOn l dC dI (fpx a) (fpy a) (fpx b) (fpy b) x y) (cwS 6 hts gX5_isInside_X5_isOn rfl rfl rfl (by decide +kernel) ⟨Nat.le_of_ble_eq_true rfl, Nat.le_of_ble_eq_true rfl⟩) (kPick (isC := []) hP rfl) (hK.sub [] rfl) rfl rfl hl.1 (Nat.le_of_ble_eq_true rfl) dX5_isInside_136 ⟨Nat.le_of_ble_eq_true rfl, Nat.le_of_ble_eq_true rfl⟩ ?_
                refine lv_if_eq (tgt := 144) hx hb dX5_isInside_139 (by decide) (fun c139 => ?_) (fun c139 => ?_)
                · replace c139 := bI_0 c139; replace c139 := pB_not c139
                  refine lv_iload hx hb dX5_isInside_144 (lv_at hl 8 rfl) ?_
                  refine lv_iconst (v := (nI 1)) hx hb dX5_isInside_146 (by decide) ?_
                  refine lv_iadd hx hb dX5_isInside_147 ?_
                  rw [show (nI b) + (nI 1) = (nI (b + 1)) from nI_add b 1]
                  refine lv_istore (lv' := [(11, .int (nI (b + 1))), (0, .ref om), (1, .int (nI s_)), (2, .long x), (4, .long y), (6, .int (bI lv)), (7, .int (nI (16 * s_))), (8, .int (nI (16 * s_ + ct s_))), (9, .int (nI a)), (10, .int (nI b))]) hx hb dX5_isInside_148 hl (by decide) rfl (fun ls hl => ?_)
                  refine kLoop (σ := Nat) (fun xz H locs ls => match xz with | d => (H = s.heap) ∧ (locs = []) ∧ (lv_has ls 12 [(0, .ref om), (1, .int (nI s_)), (2, .long x), (4, .long y), (6, .int (bI lv)), (7, .int (nI (16 * s_))), (8, .int (nI (16 * s_ + ct s_))), (9, .int (nI a)), (10, .int (nI b)), (11, .int (nI d))]) ∧ (b < d ∧ d ≤ 16 * s_ + ct s_ ∧ ∀ j, b < j → j < d → ¬ (¬ mSkip fpx fpy lv x y j ∧ mTri fpx fpy a b j x y))) (fun xz => match xz with | d => 16 * s_ + ct s_ - d) ?_ (b + 1) ?_
                  · rintro d H locs ls hI ih150
                    obtain ⟨hHe, hLe, hl, hi150_⟩ := hI
                    subst hHe
                    subst hLe
                    obtain ⟨hbd, hdt, hC⟩ := hi150_
                    refine lv_iload hx hb dX5_isInside_150 (lv_at hl 9 rfl) ?_
                    refine lv_iload hx hb dX5_isInside_152 (lv_at hl 6 rfl) ?_
                    refine lv_icmp_ge (tgt := 211) hx hb dX5_isInside_154 (by decide) (fun c154 => ?_) (fun c154 => ?_)
                    · rw [nI_leI (by omega) (by omega)] at c154
                      refine lv_iinc (v := (nI (b + 1))) (lv' := [(10, .int (nI (b + 1))), (0, .ref om), (1, .int (nI s_)), (2, .long x), (4, .long y), (6, .int (bI lv)), (7, .int (nI (16 * s_))), (8, .int (nI (16 * s_ + ct s_))), (9, .int (nI a)), (11, .int (nI d))]) hx hb dX5_isInside_211 hl (k := 8) rfl (show (nI b) + Int32.ofInt 1 = nI (b + 1) from nI_add b 1) (by decide) rfl (fun ls hl => ?_)
                      refine lv_goto (tgt := 65) hx hb dX5_isInside_214 (by decide) ?_
                      exact ih65 (b + 1) _ _ _ ⟨rfl, rfl, lv_sub hl [1, 2, 3, 4, 5, 6, 7, 8, 0] rfl, ⟨by omega, by omega, fun j h1 h2 => by rcases Nat.lt_or_ge j b with h | h; exact hB j h1 h; rw [show j = b by omega]; first | exact (fun z => z.1 ⟨c74, c86, c99⟩) | exact (fun z => z.2.elim c139 (fun ⟨w, w1, w2, w3⟩ => hC w w1 (by omega) w3))⟩⟩ (by simp only []; omega)
                    · rw [nI_leI (by omega) (by omega), Nat.not_le] at c154
                      refine lv_iload hx hb dX5_isInside_157 (lv_at hl 4 rfl) ?_
                      refine lv_if_eq (tgt := 187) hx hb dX5_isInside_159 (by decide) (fun c159 => ?_) (fun c159 => ?_)
                      · replace c159 := bI_0 c159
                        have hSd : ¬ mSkip fpx fpy lv x y d := by first | exact (fun h => absurd (h.1.symm.trans c159) (by decide)) | exact (fun h => c171 h.2.1) | exact (fun h => c184 h.2.2)
                        refine lv_aload_n hx hb dX5_isInside_187 rfl (lv_at hl 0 rfl) ?_
                        refine lv_iload hx hb dX5_isInside_188 (lv_at hl 7 rfl) ?_
                        refine lv_iload hx hb dX5_isInside_190 (lv_at hl 8 rfl) ?_
                        refine lv_iload hx hb dX5_isInside_192 (lv_at hl 9 rfl) ?_
                        refine lv_lload_n hx hb dX5_isInside_194 rfl (lv_at hl 2 rfl) ?_
                        refine lv_lload hx hb dX5_isInside_195 (lv_at hl 3 rfl) ?_
                        refine kpVi (q0 := 0) (ci := 5) (As := [.int (nI a), .int (nI b), .int (nI d), .long x, .long y]) (rest := []) (WC := [(om, .inr (5, [.int (nI cd), .int (nI ns), .ref apx, .ref apy, .ref act, .int (nI nb), .ref asd, .ref amv, .ref asl, .ref apl, .ref asw, .int (nI nw), .ref aor, .int (nI nc), .ref aon, .ref atw, .long mx, .long my, .ref aup, .ref alw, .int (nI nm), .long up, .long lo, .long rx, .long ry])), (apx, .inl (cJ, 256, .inr (.inl fpx))), (apy, .inl (cJ, 256, .inr (.inl fpy)))]) (tyC := [(cJ, .long), (cI, .int), (cZ, .boolean)]) ⟨hx, hb, hml, hown, hts⟩ (tX5_isInTriangle l dC dI cJ cI cZ om cd ns apx apy act nb asd amv asl apl asw nw aor nc aon atw aup alw nm mx my up lo rx ry fpx fpy a b d x y (by omega) (by omega) (by omega)) (cwV 5 hts gX5_isInside_X5_isInTriangle rfl rfl rfl (by decide +kernel) ⟨Nat.le_of_ble_eq_true rfl, Nat.le_of_ble_eq_true rfl⟩) (kPick (isC := [0, 1, 2]) hP rfl) (hK.sub [0, 1, 2] rfl) rfl rfl rfl rfl hl.1 (Nat.le_of_ble_eq_true rfl) dX5_isInside_197 ⟨Nat.le_of_ble_eq_true rfl, Nat.le_of_ble_eq_true rfl⟩ ?_
                        refine lv_if_eq (tgt := 205) hx hb dX5_isInside_200 (by decide) (fun c200 => ?_) (fun c200 => ?_)
                        · replace c200 := bI_0 c200; replace c200 := pB_not c200
                          refine lv_iinc (v := (nI (d + 1))) (lv' := [(11, .int (nI (d + 1))), (0, .ref om), (1, .int (nI s_)), (2, .long x), (4, .long y), (6, .int (bI lv)), (7, .int (nI (16 * s_))), (8, .int (nI (16 * s_ + ct s_))), (9, .int (nI a)), (10, .int (nI b))]) hx hb dX5_isInside_205 hl (k := 9) rfl (show (nI d) + Int32.ofInt 1 = nI (d + 1) from nI_add d 1) (by decide) rfl (fun ls hl => ?_)
                          refine lv_goto (tgt := 150) hx hb dX5_isInside_208 (by decide) ?_
                          exact ih150 (d + 1) _ _ _ ⟨rfl, rfl, lv_sub hl [1, 2, 3, 4, 5, 6, 7, 8, 9, 0] rfl, ⟨by omega, by omega, fun j h1 h2 => by rcases Nat.lt_or_ge j d with h | h; exact hC j h1 h; rw [show j = d by omega]; first | exact (fun z => z.1 ⟨c159, c171, c184⟩) | exact (fun z => c200 z.2)⟩⟩ (by simp only []; omega)
                        · replace c200 := bI_n c200; replace c200 := pB_iff.mp c200
                          refine lv_iconst (v := (nI 1)) hx hb dX5_isInside_203 (by decide) ?_
                          exact kRz hx hb hr hlocks dX5_isInside_204 (kp1 ⟨a, hfa, c25, hSa, b, hab, c69, hSb, Or.inr ⟨d, hbd, c154, hSd, c200⟩⟩)
                      · replace c159 := bI_n c159
                        refine lv_aload_n hx hb dX5_isInside_162 rfl (lv_at hl 0 rfl) ?_
                        refine va_get (D := (dC, dI)) (ci := 5) (v := .ref apx) (C := RX5) (T := TX5) (N := 25) hx hb hts hi5 hown hK hP 0 rfl rfl 2 (by decide) f7 (fun _ h9 => h9) rfl dX5_isInside_163 ?_
                        refine lv_iload hx hb dX5_isInside_166 (lv_at hl 9 rfl) ?_
                        refine va_lald hx hb hK hP 1 0 rfl rfl (vp_in_nI (show d < 256 by omega) (by omega)) dX5_isInside_168 ?_
                        rw [show (nI d).toNatClampNeg = d from nI_clamp (show d < 2 ^ 31 by omega)]
                        refine lv_lload_n hx hb dX5_isInside_169 rfl (lv_at hl 2 rfl) ?_
                        refine W.lcmp hx hb dX5_isInside_170 ?_
                        refine lv_if_ne (tgt := 187) hx hb dX5_isInside_171 (by decide) (fun c171 => ?_) (fun c171 => ?_)
                        · simp only [ne_eq, lg_cmp_eq] at c171
                          have hSd : ¬ mSkip fpx fpy lv x y d := by first | exact (fun h => absurd (h.1.symm.trans c159) (by decide)) | exact (fun h => c171 h.2.1) | exact (fun h => c184 h.2.2)
                          refine lv_aload_n hx hb dX5_isInside_187 rfl (lv_at hl 0 rfl) ?_
                          refine lv_iload hx hb dX5_isInside_188 (lv_at hl 7 rfl) ?_
                          refine lv_iload hx hb dX5_isInside_190 (lv_at hl 8 rfl) ?_
                          refine lv_iload hx hb dX5_isInside_192 (lv_at hl 9 rfl) ?_
                          refine lv_lload_n hx hb dX5_isInside_194 rfl (lv_at hl 2 rfl) ?_
                          refine lv_lload hx hb dX5_isInside_195 (lv_at hl 3 rfl) ?_
                          refine kpVi (q0 := 0) (ci := 5) (As := [.int (nI a), .int (nI b), .int (nI d), .long x, .long y]) (rest := []) (WC := [(om, .inr (5, [.int (nI cd), .int (nI ns), .ref apx, .ref apy, .ref act, .int (nI nb), .ref asd, .ref amv, .ref asl, .ref apl, .ref asw, .int (nI nw), .ref aor, .int (nI nc), .ref aon, .ref atw, .long mx, .long my, .ref aup, .ref alw, .int (nI nm), .long up, .long lo, .long rx, .long ry])), (apx, .inl (cJ, 256, .inr (.inl fpx))), (apy, .inl (cJ, 256, .inr (.inl fpy)))]) (tyC := [(cJ, .long), (cI, .int), (cZ, .boolean)]) ⟨hx, hb, hml, hown, hts⟩ (tX5_isInTriangle l dC dI cJ cI cZ om cd ns apx apy act nb asd amv asl apl asw nw aor nc aon atw aup alw nm mx my up lo rx ry fpx fpy a b d x y (by omega) (by omega) (by omega)) (cwV 5 hts gX5_isInside_X5_isInTriangle rfl rfl rfl (by decide +kernel) ⟨Nat.le_of_ble_eq_true rfl, Nat.le_of_ble_eq_true rfl⟩) (kPick (isC := [0, 1, 2]) hP rfl) (hK.sub [0, 1, 2] rfl) rfl rfl rfl rfl hl.1 (Nat.le_of_ble_eq_true rfl) dX5_isInside_197 ⟨Nat.le_of_ble_eq_true rfl, Nat.le_of_ble_eq_true rfl⟩ ?_
                          refine lv_if_eq (tgt := 205) hx hb dX5_isInside_200 (by decide) (fun c200 => ?_) (fun c200 => ?_)
                          · replace c200 := bI_0 c200; replace c200 := pB_not c200
                            refine lv_iinc (v := (nI (d + 1))) (lv' := [(11, .int (nI (d + 1))), (0, .ref om), (1, .int (nI s_)), (2, .long x), (4, .long y), (6, .int (bI lv)), (7, .int (nI (16 * s_))), (8, .int (nI (16 * s_ + ct s_))), (9, .int (nI a)), (10, .int (nI b))]) hx hb dX5_isInside_205 hl (k := 9) rfl (show (nI d) + Int32.ofInt 1 = nI (d + 1) from nI_add d 1) (by decide) rfl (fun ls hl => ?_)
                            refine lv_goto (tgt := 150) hx hb dX5_isInside_208 (by decide) ?_
                            exact ih150 (d + 1) _ _ _ ⟨rfl, rfl, lv_sub hl [1, 2, 3, 4, 5, 6, 7, 8, 9, 0] rfl, ⟨by omega, by omega, fun j h1 h2 => by rcases Nat.lt_or_ge j d with h | h; exact hC j h1 h; rw [show j = d by omega]; first | exact (fun z => z.1 ⟨c159, c171, c184⟩) | exact (fun z => c200 z.2)⟩⟩ (by simp only []; omega)
                          · replace c200 := bI_n c200; replace c200 := pB_iff.mp c200
                            refine lv_iconst (v := (nI 1)) hx hb dX5_isInside_203 (by decide) ?_
                            exact kRz hx hb hr hlocks dX5_isInside_204 (kp1 ⟨a, hfa, c25, hSa, b, hab, c69, hSb, Or.inr ⟨d, hbd, c154, hSd, c200⟩⟩)
                        · simp only [ne_eq, Decidable.not_not, lg_cmp_eq] at c171
                          refine lv_aload_n hx hb dX5_isInside_174 rfl (lv_at hl 0 rfl) ?_
                          refine va_get (D := (dC, dI)) (ci := 5) (v := .ref apy) (C := RX5) (T := TX5) (N := 25) hx hb hts hi5 hown hK hP 0 rfl rfl 3 (by decide) f13 (fun _ h9 => h9) rfl dX5_isInside_175 ?_
                          refine lv_iload hx hb dX5_isInside_178 (lv_at hl 9 rfl) ?_
                          refine va_lald hx hb hK hP 2 0 rfl rfl (vp_in_nI (show d < 256 by omega) (by omega)) dX5_isInside_180 ?_
                          rw [show (nI d).toNatClampNeg = d from nI_clamp (show d < 2 ^ 31 by omega)]
                          refine lv_lload hx hb dX5_isInside_181 (lv_at hl 3 rfl) ?_
                          refine W.lcmp hx hb dX5_isInside_183 ?_
                          refine lv_if_eq (tgt := 205) hx hb dX5_isInside_184 (by decide) (fun c184 => ?_) (fun c184 => ?_)
                          · rw [lg_cmp_eq] at c184
                            refine lv_iinc (v := (nI (d + 1))) (lv' := [(11, .int (nI (d + 1))), (0, .ref om), (1, .int (nI s_)), (2, .long x), (4, .long y), (6, .int (bI lv)), (7, .int (nI (16 * s_))), (8, .int (nI (16 * s_ + ct s_))), (9, .int (nI a)), (10, .int (nI b))]) hx hb dX5_isInside_205 hl (k := 9) rfl (show (nI d) + Int32.ofInt 1 = nI (d + 1) from nI_add d 1) (by decide) rfl (fun ls hl => ?_)
                            refine lv_goto (tgt := 150) hx hb dX5_isInside_208 (by decide) ?_
                            exact ih150 (d + 1) _ _ _ ⟨rfl, rfl, lv_sub hl [1, 2, 3, 4, 5, 6, 7, 8, 9, 0] rfl, ⟨by omega, by omega, fun j h1 h2 => by rcases Nat.lt_or_ge j d with h | h; exact hC j h1 h; rw [show j = d by omega]; first | exact (fun z => z.1 ⟨c159, c171, c184⟩) | exact (fun z => c200 z.2)⟩⟩ (by simp only []; omega)
                          · rw [lg_cmp_eq] at c184
                            have hSd : ¬ mSkip fpx fpy lv x y d := by first | exact (fun h => absurd (h.1.symm.trans c159) (by decide)) | exact (fun h => c171 h.2.1) | exact (fun h => c184 h.2.2)
                            refine lv_aload_n hx hb dX5_isInside_187 rfl (lv_at hl 0 rfl) ?_
                            refine lv_iload hx hb dX5_isInside_188 (lv_at hl 7 rfl) ?_
                            refine lv_iload hx hb dX5_isInside_190 (lv_at hl 8 rfl) ?_
                            refine lv_iload hx hb dX5_isInside_192 (lv_at hl 9 rfl) ?_
                            refine lv_lload_n hx hb dX5_isInside_194 rfl (lv_at hl 2 rfl) ?_
                            refine lv_lload hx hb dX5_isInside_195 (lv_at hl 3 rfl) ?_
                            refine kpVi (q0 := 0) (ci := 5) (As := [.int (nI a), .int (nI b), .int (nI d), .long x, .long y]) (rest := []) (WC := [(om, .inr (5, [.int (nI cd), .int (nI ns), .ref apx, .ref apy, .ref act, .int (nI nb), .ref asd, .ref amv, .ref asl, .ref apl, .ref asw, .int (nI nw), .ref aor, .int (nI nc), .ref aon, .ref atw, .long mx, .long my, .ref aup, .ref alw, .int (nI nm), .long up, .long lo, .long rx, .long ry])), (apx, .inl (cJ, 256, .inr (.inl fpx))), (apy, .inl (cJ, 256, .inr (.inl fpy)))]) (tyC := [(cJ, .long), (cI, .int), (cZ, .boolean)]) ⟨hx, hb, hml, hown, hts⟩ (tX5_isInTriangle l dC dI cJ cI cZ om cd ns apx apy act nb asd amv asl apl asw nw aor nc aon atw aup alw nm mx my up lo rx ry fpx fpy a b d x y (by omega) (by omega) (by omega)) (cwV 5 hts gX5_isInside_X5_isInTriangle rfl rfl rfl (by decide +kernel) ⟨Nat.le_of_ble_eq_true rfl, Nat.le_of_ble_eq_true rfl⟩) (kPick (isC := [0, 1, 2]) hP rfl) (hK.sub [0, 1, 2] rfl) rfl rfl rfl rfl hl.1 (Nat.le_of_ble_eq_true rfl) dX5_isInside_197 ⟨Nat.le_of_ble_eq_true rfl, Nat.le_of_ble_eq_true rfl⟩ ?_
                            refine lv_if_eq (tgt := 205) hx hb dX5_isInside_200 (by decide) (fun c200 => ?_) (fun c200 => ?_)
                            · replace c200 := bI_0 c200; replace c200 := pB_not c200
                              refine lv_iinc (v := (nI (d + 1))) (lv' := [(11, .int (nI (d + 1))), (0, .ref om), (1, .int (nI s_)), (2, .long x), (4, .long y), (6, .int (bI lv)), (7, .int (nI (16 * s_))), (8, .int (nI (16 * s_ + ct s_))), (9, .int (nI a)), (10, .int (nI b))]) hx hb dX5_isInside_205 hl (k := 9) rfl (show (nI d) + Int32.ofInt 1 = nI (d + 1) from nI_add d 1) (by decide) rfl (fun ls hl => ?_)
                              refine lv_goto (tgt := 150) hx hb dX5_isInside_208 (by decide) ?_
                              exact ih150 (d + 1) _ _ _ ⟨rfl, rfl, lv_sub hl [1, 2, 3, 4, 5, 6, 7, 8, 9, 0] rfl, ⟨by omega, by omega, fun j h1 h2 => by rcases Nat.lt_or_ge j d with h | h; exact hC j h1 h; rw [show j = d by omega]; first | exact (fun z => z.1 ⟨c159, c171, c184⟩) | exact (fun z => c200 z.2)⟩⟩ (by simp only []; omega)
                            · replace c200 := bI_n c200; replace c200 := pB_iff.mp c200
                              refine lv_iconst (v := (nI 1)) hx hb dX5_isInside_203 (by decide) ?_
                              exact kRz hx hb hr hlocks dX5_isInside_204 (kp1 ⟨a, hfa, c25, hSa, b, hab, c69, hSb, Or.inr ⟨d, hbd, c154, hSd, c200⟩⟩)
                  · exact ⟨rfl, rfl, lv_sub hl [1, 2, 3, 4, 5, 6, 7, 8, 9, 0] rfl, ⟨by omega, by omega, fun j h1 h2 => absurd h2 (by omega)⟩⟩
                · replace c139 := bI_n c139; replace c139 := pB_iff.mp c139
                  refine lv_iconst (v := (nI 1)) hx hb dX5_isInside_142 (by decide) ?_
                  exact kRz hx hb hr hlocks dX5_isInside_143 (kp1 ⟨a, hfa, c25, hSa, b, hab, c69, hSb, Or.inl c139⟩)
              · simp only [ne_eq, Decidable.not_not, lg_cmp_eq] at c86
                refine lv_aload_n hx hb dX5_isInside_89 rfl (lv_at hl 0 rfl) ?_
                refine va_get (D := (dC, dI)) (ci := 5) (v := .ref apy) (C := RX5) (T := TX5) (N := 25) hx hb hts hi5 hown hK hP 0 rfl rfl 3 (by decide) f13 (fun _ h9 => h9) rfl dX5_isInside_90 ?_
                refine lv_iload hx hb dX5_isInside_93 (lv_at hl 8 rfl) ?_
                refine va_lald hx hb hK hP 2 0 rfl rfl (vp_in_nI (show b < 256 by omega) (by omega)) dX5_isInside_95 ?_
                rw [show (nI b).toNatClampNeg = b from nI_clamp (show b < 2 ^ 31 by omega)]
                refine lv_lload hx hb dX5_isInside_96 (lv_at hl 3 rfl) ?_
                refine W.lcmp hx hb dX5_isInside_98 ?_
                refine lv_if_ne (tgt := 105) hx hb dX5_isInside_99 (by decide) (fun c99 => ?_) (fun c99 => ?_)
                · simp only [ne_eq, lg_cmp_eq] at c99
                  have hSb : ¬ mSkip fpx fpy lv x y b := by first | exact (fun h => absurd (h.1.symm.trans c74) (by decide)) | exact (fun h => c86 h.2.1) | exact (fun h => c99 h.2.2)
                  refine lv_aload_n hx hb dX5_isInside_105 rfl (lv_at hl 0 rfl) ?_
                  refine va_get (D := (dC, dI)) (ci := 5) (v := .ref apx) (C := RX5) (T := TX5) (N := 25) hx hb hts hi5 hown hK hP 0 rfl rfl 2 (by decide) f7 (fun _ h9 => h9) rfl dX5_isInside_106 ?_
                  refine lv_iload hx hb dX5_isInside_109 (lv_at hl 7 rfl) ?_
                  refine va_lald hx hb hK hP 1 0 rfl rfl (vp_in_nI (show a < 256 by omega) (by omega)) dX5_isInside_111 ?_
                  rw [show (nI a).toNatClampNeg = a from nI_clamp (show a < 2 ^ 31 by omega)]
                  refine lv_aload_n hx hb dX5_isInside_112 rfl (lv_at hl 0 rfl) ?_
                  refine va_get (D := (dC, dI)) (ci := 5) (v := .ref apy) (C := RX5) (T := TX5) (N := 25) hx hb hts hi5 hown hK hP 0 rfl rfl 3 (by decide) f13 (fun _ h9 => h9) rfl dX5_isInside_113 ?_
                  refine lv_iload hx hb dX5_isInside_116 (lv_at hl 7 rfl) ?_
                  refine va_lald hx hb hK hP 2 0 rfl rfl (vp_in_nI (show a < 256 by omega) (by omega)) dX5_isInside_118 ?_
                  rw [show (nI a).toNatClampNeg = a from nI_clamp (show a < 2 ^ 31 by omega)]
                  refine lv_aload_n hx hb dX5_isInside_119 rfl (lv_at hl 0 rfl) ?_
                  refine va_get (D := (dC, dI)) (ci := 5) (v := .ref apx) (C := RX5) (T := TX5) (N := 25) hx hb hts hi5 hown hK hP 0 rfl rfl 2 (by decide) f7 (fun _ h9 => h9) rfl dX5_isInside_120 ?_
                  refine lv_iload hx hb dX5_isInside_123 (lv_at hl 8 rfl) ?_
                  refine va_lald hx hb hK hP 1 0 rfl rfl (vp_in_nI (show b < 256 by omega) (by omega)) dX5_isInside_125 ?_
                  rw [show (nI b).toNatClampNeg = b from nI_clamp (show b < 2 ^ 31 by omega)]
                  refine lv_aload_n hx hb dX5_isInside_126 rfl (lv_at hl 0 rfl) ?_
                  refine va_get (D := (dC, dI)) (ci := 5) (v := .ref apy) (C := RX5) (T := TX5) (N := 25) hx hb hts hi5 hown hK hP 0 rfl rfl 3 (by decide) f13 (fun _ h9 => h9) rfl dX5_isInside_127 ?_
                  refine lv_iload hx hb dX5_isInside_130 (lv_at hl 8 rfl) ?_
                  refine va_lald hx hb hK hP 2 0 rfl rfl (vp_in_nI (show b < 256 by omega) (by omega)) dX5_isInside_132 ?_
                  rw [show (nI b).toNatClampNeg = b from nI_clamp (show b < 2 ^ 31 by omega)]
                  refine lv_lload_n hx hb dX5_isInside_133 rfl (lv_at hl 2 rfl) ?_
                  refine lv_lload hx hb dX5_isInside_134 (lv_at hl 3 rfl) ?_
                  refine kpSi (As := [.long (fpx a), .long (fpy a), .long (fpx b), .long (fpy b), .long x, .long y]) (rest := []) (WC := []) (tyC := []) ⟨hx, hb, hml, hown, hts⟩ (tX5_isOn l dC dI (fpx a) (fpy a) (fpx b) (fpy b) x y) (cwS 6 hts gX5_isInside_X5_isOn rfl rfl rfl (by decide +kernel) ⟨Nat.le_of_ble_eq_true rfl, Nat.le_of_ble_eq_true rfl⟩) (kPick (isC := []) hP rfl) (hK.sub [] rfl) rfl rfl hl.1 (Nat.le_of_ble_eq_true rfl) dX5_isInside_136 ⟨Nat.le_of_ble_eq_true rfl, Nat.le_of_ble_eq_true rfl⟩ ?_
                  refine lv_if_eq (tgt := 144) hx hb dX5_isInside_139 (by decide) (fun c139 => ?_) (fun c139 => ?_)
                  · replace c139 := bI_0 c139; replace c139 := pB_not c139
                    refine lv_iload hx hb dX5_isInside_144 (lv_at hl 8 rfl) ?_
                    refine lv_iconst (v := (nI 1)) hx hb dX5_isInside_146 (by decide) ?_
                    refine lv_iadd hx hb dX5_isInside_147 ?_
                    rw [show (nI b) + (nI 1) = (nI (b + 1)) from nI_add b 1]
                    refine lv_istore (lv' := [(11, .int (nI (b + 1))), (0, .ref om), (1, .int (nI s_)), (2, .long x), (4, .long y), (6, .int (bI lv)), (7, .int (nI (16 * s_))), (8, .int (nI (16 * s_ + ct s_))), (9, .int (nI a)), (10, .int (nI b))]) hx hb dX5_isInside_148 hl (by decide) rfl (fun ls hl => ?_)
                    refine kLoop (σ := Nat) (fun xz H locs ls => match xz with | d => (H = s.heap) ∧ (locs = []) ∧ (lv_has ls 12 [(0, .ref om), (1, .int (nI s_)), (2, .long x), (4, .long y), (6, .int (bI lv)), (7, .int (nI (16 * s_))), (8, .int (nI (16 * s_ + ct s_))), (9, .int (nI a)), (10, .int (nI b)), (11, .int (nI d))]) ∧ (b < d ∧ d ≤ 16 * s_ + ct s_ ∧ ∀ j, b < j → j < d → ¬ (¬ mSkip fpx fpy lv x y j ∧ mTri fpx fpy a b j x y))) (fun xz => match xz with | d => 16 * s_ + ct s_ - d) ?_ (b + 1) ?_
                    · rintro d H locs ls hI ih150
                      obtain ⟨hHe, hLe, hl, hi150_⟩ := hI
                      subst hHe
                      subst hLe
                      obtain ⟨hbd, hdt, hC⟩ := hi150_
                      refine lv_iload hx hb dX5_isInside_150 (lv_at hl 9 rfl) ?_
                      refine lv_iload hx hb dX5_isInside_152 (lv_at hl 6 rfl) ?_
                      refine lv_icmp_ge (tgt := 211) hx hb dX5_isInside_154 (by decide) (fun c154 => ?_) (fun c154 => ?_)
                      · rw [nI_leI (by omega) (by omega)] at c154
                        refine lv_iinc (v := (nI (b + 1))) (lv' := [(10, .int (nI (b + 1))), (0, .ref om), (1, .int (nI s_)), (2, .long x), (4, .long y), (6, .int (bI lv)), (7, .int (nI (16 * s_))), (8, .int (nI (16 * s_ + ct s_))), (9, .int (nI a)), (11, .int (nI d))]) hx hb dX5_isInside_211 hl (k := 8) rfl (show (nI b) + Int32.ofInt 1 = nI (b + 1) from nI_add b 1) (by decide) rfl (fun ls hl => ?_)
                        refine lv_goto (tgt := 65) hx hb dX5_isInside_214 (by decide) ?_
                        exact ih65 (b + 1) _ _ _ ⟨rfl, rfl, lv_sub hl [1, 2, 3, 4, 5, 6, 7, 8, 0] rfl, ⟨by omega, by omega, fun j h1 h2 => by rcases Nat.lt_or_ge j b with h | h; exact hB j h1 h; rw [show j = b by omega]; first | exact (fun z => z.1 ⟨c74, c86, c99⟩) | exact (fun z => z.2.elim c139 (fun ⟨w, w1, w2, w3⟩ => hC w w1 (by omega) w3))⟩⟩ (by simp only []; omega)
                      · rw [nI_leI (by omega) (by omega), Nat.not_le] at c154
                        refine lv_iload hx hb dX5_isInside_157 (lv_at hl 4 rfl) ?_
                        refine lv_if_eq (tgt := 187) hx hb dX5_isInside_159 (by decide) (fun c159 => ?_) (fun c159 => ?_)
                        · replace c159 := bI_0 c159
                          have hSd : ¬ mSkip fpx fpy lv x y d := by first | exact (fun h => absurd (h.1.symm.trans c159) (by decide)) | exact (fun h => c171 h.2.1) | exact (fun h => c184 h.2.2)
                          refine lv_aload_n hx hb dX5_isInside_187 rfl (lv_at hl 0 rfl) ?_
                          refine lv_iload hx hb dX5_isInside_188 (lv_at hl 7 rfl) ?_
                          refine lv_iload hx hb dX5_isInside_190 (lv_at hl 8 rfl) ?_
                          refine lv_iload hx hb dX5_isInside_192 (lv_at hl 9 rfl) ?_
                          refine lv_lload_n hx hb dX5_isInside_194 rfl (lv_at hl 2 rfl) ?_
                          refine lv_lload hx hb dX5_isInside_195 (lv_at hl 3 rfl) ?_
                          refine kpVi (q0 := 0) (ci := 5) (As := [.int (nI a), .int (nI b), .int (nI d), .long x, .long y]) (rest := []) (WC := [(om, .inr (5, [.int (nI cd), .int (nI ns), .ref apx, .ref apy, .ref act, .int (nI nb), .ref asd, .ref amv, .ref asl, .ref apl, .ref asw, .int (nI nw), .ref aor, .int (nI nc), .ref aon, .ref atw, .long mx, .long my, .ref aup, .ref alw, .int (nI nm), .long up, .long lo, .long rx, .long ry])), (apx, .inl (cJ, 256, .inr (.inl fpx))), (apy, .inl (cJ, 256, .inr (.inl fpy)))]) (tyC := [(cJ, .long), (cI, .int), (cZ, .boolean)]) ⟨hx, hb, hml, hown, hts⟩ (tX5_isInTriangle l dC dI cJ cI cZ om cd ns apx apy act nb asd amv asl apl asw nw aor nc aon atw aup alw nm mx my up lo rx ry fpx fpy a b d x y (by omega) (by omega) (by omega)) (cwV 5 hts gX5_isInside_X5_isInTriangle rfl rfl rfl (by decide +kernel) ⟨Nat.le_of_ble_eq_true rfl, Nat.le_of_ble_eq_true rfl⟩) (kPick (isC := [0, 1, 2]) hP rfl) (hK.sub [0, 1, 2] rfl) rfl rfl rfl rfl hl.1 (Nat.le_of_ble_eq_true rfl) dX5_isInside_197 ⟨Nat.le_of_ble_eq_true rfl, Nat.le_of_ble_eq_true rfl⟩ ?_
                          refine lv_if_eq (tgt := 205) hx hb dX5_isInside_200 (by decide) (fun c200 => ?_) (fun c200 => ?_)
                          · replace c200 := bI_0 c200; replace c200 := pB_not c200
                            refine lv_iinc (v := (nI (d + 1))) (lv' := [(11, .int (nI (d + 1))), (0, .ref om), (1, .int (nI s_)), (2, .long x), (4, .long y), (6, .int (bI lv)), (7, .int (nI (16 * s_))), (8, .int (nI (16 * s_ + ct s_))), (9, .int (nI a)), (10, .int (nI b))]) hx hb dX5_isInside_205 hl (k := 9) rfl (show (nI d) + Int32.ofInt 1 = nI (d + 1) from nI_add d 1) (by decide) rfl (fun ls hl => ?_)
                            refine lv_goto (tgt := 150) hx hb dX5_isInside_208 (by decide) ?_
                            exact ih150 (d + 1) _ _ _ ⟨rfl, rfl, lv_sub hl [1, 2, 3, 4, 5, 6, 7, 8, 9, 0] rfl, ⟨by omega, by omega, fun j h1 h2 => by rcases Nat.lt_or_ge j d with h | h; exact hC j h1 h; rw [show j = d by omega]; first | exact (fun z => z.1 ⟨c159, c171, c184⟩) | exact (fun z => c200 z.2)⟩⟩ (by simp only []; omega)
                          · replace c200 := bI_n c200; replace c200 := pB_iff.mp c200
                            refine lv_iconst (v := (nI 1)) hx hb dX5_isInside_203 (by decide) ?_
                            exact kRz hx hb hr hlocks dX5_isInside_204 (kp1 ⟨a, hfa, c25, hSa, b, hab, c69, hSb, Or.inr ⟨d, hbd, c154, hSd, c200⟩⟩)
                        · replace c159 := bI_n c159
                          refine lv_aload_n hx hb dX5_isInside_162 rfl (lv_at hl 0 rfl) ?_
                          refine va_get (D := (dC, dI)) (ci := 5) (v := .ref apx) (C := RX5) (T := TX5) (N := 25) hx hb hts hi5 hown hK hP 0 rfl rfl 2 (by decide) f7 (fun _ h9 => h9) rfl dX5_isInside_163 ?_
                          refine lv_iload hx hb dX5_isInside_166 (lv_at hl 9 rfl) ?_
                          refine va_lald hx hb hK hP 1 0 rfl rfl (vp_in_nI (show d < 256 by omega) (by omega)) dX5_isInside_168 ?_
                          rw [show (nI d).toNatClampNeg = d from nI_clamp (show d < 2 ^ 31 by omega)]
                          refine lv_lload_n hx hb dX5_isInside_169 rfl (lv_at hl 2 rfl) ?_
                          refine W.lcmp hx hb dX5_isInside_170 ?_
                          refine lv_if_ne (tgt := 187) hx hb dX5_isInside_171 (by decide) (fun c171 => ?_) (fun c171 => ?_)
                          · simp only [ne_eq, lg_cmp_eq] at c171
                            have hSd : ¬ mSkip fpx fpy lv x y d := by first | exact (fun h => absurd (h.1.symm.trans c159) (by decide)) | exact (fun h => c171 h.2.1) | exact (fun h => c184 h.2.2)
                            refine lv_aload_n hx hb dX5_isInside_187 rfl (lv_at hl 0 rfl) ?_
                            refine lv_iload hx hb dX5_isInside_188 (lv_at hl 7 rfl) ?_
                            refine lv_iload hx hb dX5_isInside_190 (lv_at hl 8 rfl) ?_
                            refine lv_iload hx hb dX5_isInside_192 (lv_at hl 9 rfl) ?_
                            refine lv_lload_n hx hb dX5_isInside_194 rfl (lv_at hl 2 rfl) ?_
                            refine lv_lload hx hb dX5_isInside_195 (lv_at hl 3 rfl) ?_
                            refine kpVi (q0 := 0) (ci := 5) (As := [.int (nI a), .int (nI b), .int (nI d), .long x, .long y]) (rest := []) (WC := [(om, .inr (5, [.int (nI cd), .int (nI ns), .ref apx, .ref apy, .ref act, .int (nI nb), .ref asd, .ref amv, .ref asl, .ref apl, .ref asw, .int (nI nw), .ref aor, .int (nI nc), .ref aon, .ref atw, .long mx, .long my, .ref aup, .ref alw, .int (nI nm), .long up, .long lo, .long rx, .long ry])), (apx, .inl (cJ, 256, .inr (.inl fpx))), (apy, .inl (cJ, 256, .inr (.inl fpy)))]) (tyC := [(cJ, .long), (cI, .int), (cZ, .boolean)]) ⟨hx, hb, hml, hown, hts⟩ (tX5_isInTriangle l dC dI cJ cI cZ om cd ns apx apy act nb asd amv asl apl asw nw aor nc aon atw aup alw nm mx my up lo rx ry fpx fpy a b d x y (by omega) (by omega) (by omega)) (cwV 5 hts gX5_isInside_X5_isInTriangle rfl rfl rfl (by decide +kernel) ⟨Nat.le_of_ble_eq_true rfl, Nat.le_of_ble_eq_true rfl⟩) (kPick (isC := [0, 1, 2]) hP rfl) (hK.sub [0, 1, 2] rfl) rfl rfl rfl rfl hl.1 (Nat.le_of_ble_eq_true rfl) dX5_isInside_197 ⟨Nat.le_of_ble_eq_true rfl, Nat.le_of_ble_eq_true rfl⟩ ?_
                            refine lv_if_eq (tgt := 205) hx hb dX5_isInside_200 (by decide) (fun c200 => ?_) (fun c200 => ?_)
                            · replace c200 := bI_0 c200; replace c200 := pB_not c200
                              refine lv_iinc (v := (nI (d + 1))) (lv' := [(11, .int (nI (d + 1))), (0, .ref om), (1, .int (nI s_)), (2, .long x), (4, .long y), (6, .int (bI lv)), (7, .int (nI (16 * s_))), (8, .int (nI (16 * s_ + ct s_))), (9, .int (nI a)), (10, .int (nI b))]) hx hb dX5_isInside_205 hl (k := 9) rfl (show (nI d) + Int32.ofInt 1 = nI (d + 1) from nI_add d 1) (by decide) rfl (fun ls hl => ?_)
                              refine lv_goto (tgt := 150) hx hb dX5_isInside_208 (by decide) ?_
                              exact ih150 (d + 1) _ _ _ ⟨rfl, rfl, lv_sub hl [1, 2, 3, 4, 5, 6, 7, 8, 9, 0] rfl, ⟨by omega, by omega, fun j h1 h2 => by rcases Nat.lt_or_ge j d with h | h; exact hC j h1 h; rw [show j = d by omega]; first | exact (fun z => z.1 ⟨c159, c171, c184⟩) | exact (fun z => c200 z.2)⟩⟩ (by simp only []; omega)
                            · replace c200 := bI_n c200; replace c200 := pB_iff.mp c200
                              refine lv_iconst (v := (nI 1)) hx hb dX5_isInside_203 (by decide) ?_
                              exact kRz hx hb hr hlocks dX5_isInside_204 (kp1 ⟨a, hfa, c25, hSa, b, hab, c69, hSb, Or.inr ⟨d, hbd, c154, hSd, c200⟩⟩)
                          · simp only [ne_eq, Decidable.not_not, lg_cmp_eq] at c171
                            refine lv_aload_n hx hb dX5_isInside_174 rfl (lv_at hl 0 rfl) ?_
                            refine va_get (D := (dC, dI)) (ci := 5) (v := .ref apy) (C := RX5) (T := TX5) (N := 25) hx hb hts hi5 hown hK hP 0 rfl rfl 3 (by decide) f13 (fun _ h9 => h9) rfl dX5_isInside_175 ?_
                            refine lv_iload hx hb dX5_isInside_178 (lv_at hl 9 rfl) ?_
                            refine va_lald hx hb hK hP 2 0 rfl rfl (vp_in_nI (show d < 256 by omega) (by omega)) dX5_isInside_180 ?_
                            rw [show (nI d).toNatClampNeg = d from nI_clamp (show d < 2 ^ 31 by omega)]
                            refine lv_lload hx hb dX5_isInside_181 (lv_at hl 3 rfl) ?_
                            refine W.lcmp hx hb dX5_isInside_183 ?_
                            refine lv_if_eq (tgt := 205) hx hb dX5_isInside_184 (by decide) (fun c184 => ?_) (fun c184 => ?_)
                            · rw [lg_cmp_eq] at c184
                              refine lv_iinc (v := (nI (d + 1))) (lv' := [(11, .int (nI (d + 1))), (0, .ref om), (1, .int (nI s_)), (2, .long x), (4, .long y), (6, .int (bI lv)), (7, .int (nI (16 * s_))), (8, .int (nI (16 * s_ + ct s_))), (9, .int (nI a)), (10, .int (nI b))]) hx hb dX5_isInside_205 hl (k := 9) rfl (show (nI d) + Int32.ofInt 1 = nI (d + 1) from nI_add d 1) (by decide) rfl (fun ls hl => ?_)
                              refine lv_goto (tgt := 150) hx hb dX5_isInside_208 (by decide) ?_
                              exact ih150 (d + 1) _ _ _ ⟨rfl, rfl, lv_sub hl [1, 2, 3, 4, 5, 6, 7, 8, 9, 0] rfl, ⟨by omega, by omega, fun j h1 h2 => by rcases Nat.lt_or_ge j d with h | h; exact hC j h1 h; rw [show j = d by omega]; first | exact (fun z => z.1 ⟨c159, c171, c184⟩) | exact (fun z => c200 z.2)⟩⟩ (by simp only []; omega)
                            · rw [lg_cmp_eq] at c184
                              have hSd : ¬ mSkip fpx fpy lv x y d := by first | exact (fun h => absurd (h.1.symm.trans c159) (by decide)) | exact (fun h => c171 h.2.1) | exact (fun h => c184 h.2.2)
                              refine lv_aload_n hx hb dX5_isInside_187 rfl (lv_at hl 0 rfl) ?_
                              refine lv_iload hx hb dX5_isInside_188 (lv_at hl 7 rfl) ?_
                              refine lv_iload hx hb dX5_isInside_190 (lv_at hl 8 rfl) ?_
                              refine lv_iload hx hb dX5_isInside_192 (lv_at hl 9 rfl) ?_
                              refine lv_lload_n hx hb dX5_isInside_194 rfl (lv_at hl 2 rfl) ?_
                              refine lv_lload hx hb dX5_isInside_195 (lv_at hl 3 rfl) ?_
                              refine kpVi (q0 := 0) (ci := 5) (As := [.int (nI a), .int (nI b), .int (nI d), .long x, .long y]) (rest := []) (WC := [(om, .inr (5, [.int (nI cd), .int (nI ns), .ref apx, .ref apy, .ref act, .int (nI nb), .ref asd, .ref amv, .ref asl, .ref apl, .ref asw, .int (nI nw), .ref aor, .int (nI nc), .ref aon, .ref atw, .long mx, .long my, .ref aup, .ref alw, .int (nI nm), .long up, .long lo, .long rx, .long ry])), (apx, .inl (cJ, 256, .inr (.inl fpx))), (apy, .inl (cJ, 256, .inr (.inl fpy)))]) (tyC := [(cJ, .long), (cI, .int), (cZ, .boolean)]) ⟨hx, hb, hml, hown, hts⟩ (tX5_isInTriangle l dC dI cJ cI cZ om cd ns apx apy act nb asd amv asl apl asw nw aor nc aon atw aup alw nm mx my up lo rx ry fpx fpy a b d x y (by omega) (by omega) (by omega)) (cwV 5 hts gX5_isInside_X5_isInTriangle rfl rfl rfl (by decide +kernel) ⟨Nat.le_of_ble_eq_true rfl, Nat.le_of_ble_eq_true rfl⟩) (kPick (isC := [0, 1, 2]) hP rfl) (hK.sub [0, 1, 2] rfl) rfl rfl rfl rfl hl.1 (Nat.le_of_ble_eq_true rfl) dX5_isInside_197 ⟨Nat.le_of_ble_eq_true rfl, Nat.le_of_ble_eq_true rfl⟩ ?_
                              refine lv_if_eq (tgt := 205) hx hb dX5_isInside_200 (by decide) (fun c200 => ?_) (fun c200 => ?_)
                              · replace c200 := bI_0 c200; replace c200 := pB_not c200
                                refine lv_iinc (v := (nI (d + 1))) (lv' := [(11, .int (nI (d + 1))), (0, .ref om), (1, .int (nI s_)), (2, .long x), (4, .long y), (6, .int (bI lv)), (7, .int (nI (16 * s_))), (8, .int (nI (16 * s_ + ct s_))), (9, .int (nI a)), (10, .int (nI b))]) hx hb dX5_isInside_205 hl (k := 9) rfl (show (nI d) + Int32.ofInt 1 = nI (d + 1) from nI_add d 1) (by decide) rfl (fun ls hl => ?_)
                                refine lv_goto (tgt := 150) hx hb dX5_isInside_208 (by decide) ?_
                                exact ih150 (d + 1) _ _ _ ⟨rfl, rfl, lv_sub hl [1, 2, 3, 4, 5, 6, 7, 8, 9, 0] rfl, ⟨by omega, by omega, fun j h1 h2 => by rcases Nat.lt_or_ge j d with h | h; exact hC j h1 h; rw [show j = d by omega]; first | exact (fun z => z.1 ⟨c159, c171, c184⟩) | exact (fun z => c200 z.2)⟩⟩ (by simp only []; omega)
                              · replace c200 := bI_n c200; replace c200 := pB_iff.mp c200
                                refine lv_iconst (v := (nI 1)) hx hb dX5_isInside_203 (by decide) ?_
                                exact kRz hx hb hr hlocks dX5_isInside_204 (kp1 ⟨a, hfa, c25, hSa, b, hab, c69, hSb, Or.inr ⟨d, hbd, c154, hSd, c200⟩⟩)
                    · exact ⟨rfl, rfl, lv_sub hl [1, 2, 3, 4, 5, 6, 7, 8, 9, 0] rfl, ⟨by omega, by omega, fun j h1 h2 => absurd h2 (by omega)⟩⟩
                  · replace c139 := bI_n c139; replace c139 := pB_iff.mp c139
                    refine lv_iconst (v := (nI 1)) hx hb dX5_isInside_142 (by decide) ?_
                    exact kRz hx hb hr hlocks dX5_isInside_143 (kp1 ⟨a, hfa, c25, hSa, b, hab, c69, hSb, Or.inl c139⟩)
                · simp only [ne_eq, Decidable.not_not, lg_cmp_eq] at c99
                  refine lv_goto (tgt := 211) hx hb dX5_isInside_102 (by decide) ?_
                  refine lv_iinc (v := (nI (b + 1))) (lv' := [(10, .int (nI (b + 1))), (0, .ref om), (1, .int (nI s_)), (2, .long x), (4, .long y), (6, .int (bI lv)), (7, .int (nI (16 * s_))), (8, .int (nI (16 * s_ + ct s_))), (9, .int (nI a))]) hx hb dX5_isInside_211 hl (k := 8) rfl (show (nI b) + Int32.ofInt 1 = nI (b + 1) from nI_add b 1) (by decide) rfl (fun ls hl => ?_)
                  refine lv_goto (tgt := 65) hx hb dX5_isInside_214 (by decide) ?_
                  exact ih65 (b + 1) _ _ _ ⟨rfl, rfl, lv_sub hl [1, 2, 3, 4, 5, 6, 7, 8, 0] rfl, ⟨by omega, by omega, fun j h1 h2 => by rcases Nat.lt_or_ge j b with h | h; exact hB j h1 h; rw [show j = b by omega]; first | exact (fun z => z.1 ⟨c74, c86, c99⟩) | exact (fun z => z.2.elim c139 (fun ⟨w, w1, w2, w3⟩ => hC w w1 (by omega) w3))⟩⟩ (by simp only []; omega)
        · exact ⟨rfl, rfl, lv_sub hl [1, 2, 3, 4, 5, 6, 7, 8, 0] rfl, ⟨Nat.le_refl _, by omega, fun j h1 h2 => absurd h2 (by omega)⟩⟩
      · replace c30 := bI_n c30
        refine lv_aload_n hx hb dX5_isInside_33 rfl (lv_at hl 0 rfl) ?_
        refine va_get (D := (dC, dI)) (ci := 5) (v := .ref apx) (C := RX5) (T := TX5) (N := 25) hx hb hts hi5 hown hK hP 0 rfl rfl 2 (by decide) f7 (fun _ h9 => h9) rfl dX5_isInside_34 ?_
        refine lv_iload hx hb dX5_isInside_37 (lv_at hl 7 rfl) ?_
        refine va_lald hx hb hK hP 1 0 rfl rfl (vp_in_nI (show a < 256 by omega) (by omega)) dX5_isInside_39 ?_
        rw [show (nI a).toNatClampNeg = a from nI_clamp (show a < 2 ^ 31 by omega)]
        refine lv_lload_n hx hb dX5_isInside_40 rfl (lv_at hl 2 rfl) ?_
        refine W.lcmp hx hb dX5_isInside_41 ?_
        refine lv_if_ne (tgt := 61) hx hb dX5_isInside_42 (by decide) (fun c42 => ?_) (fun c42 => ?_)
        · simp only [ne_eq, lg_cmp_eq] at c42
          have hSa : ¬ mSkip fpx fpy lv x y a := by first | exact (fun h => absurd (h.1.symm.trans c30) (by decide)) | exact (fun h => c42 h.2.1) | exact (fun h => c55 h.2.2)
          refine lv_iload hx hb dX5_isInside_61 (lv_at hl 7 rfl) ?_
          refine lv_istore (lv' := [(10, .int (nI a)), (0, .ref om), (1, .int (nI s_)), (2, .long x), (4, .long y), (6, .int (bI lv)), (7, .int (nI (16 * s_))), (8, .int (nI (16 * s_ + ct s_))), (9, .int (nI a))]) hx hb dX5_isInside_63 hl (by decide) rfl (fun ls hl => ?_)
          refine kLoop (σ := Nat) (fun xz H locs ls => match xz with | b => (H = s.heap) ∧ (locs = []) ∧ (lv_has ls 12 [(0, .ref om), (1, .int (nI s_)), (2, .long x), (4, .long y), (6, .int (bI lv)), (7, .int (nI (16 * s_))), (8, .int (nI (16 * s_ + ct s_))), (9, .int (nI a)), (10, .int (nI b))]) ∧ (a ≤ b ∧ b ≤ 16 * s_ + ct s_ ∧ ∀ j, a ≤ j → j < b → ¬ mAB fpx fpy lv x y (16 * s_ + ct s_) a j)) (fun xz => match xz with | b => 16 * s_ + ct s_ - b) ?_ (a) ?_
          · rintro b H locs ls hI ih65
            obtain ⟨hHe, hLe, hl, hi65_⟩ := hI
            subst hHe
            subst hLe
            obtain ⟨hab, hbt, hB⟩ := hi65_
            refine lv_iload hx hb dX5_isInside_65 (lv_at hl 8 rfl) ?_
            refine lv_iload hx hb dX5_isInside_67 (lv_at hl 6 rfl) ?_
            refine lv_icmp_ge (tgt := 217) hx hb dX5_isInside_69 (by decide) (fun c69 => ?_) (fun c69 => ?_)
            · rw [nI_leI (by omega) (by omega)] at c69
              refine lv_iinc (v := (nI (a + 1))) (lv' := [(9, .int (nI (a + 1))), (0, .ref om), (1, .int (nI s_)), (2, .long x), (4, .long y), (6, .int (bI lv)), (7, .int (nI (16 * s_))), (8, .int (nI (16 * s_ + ct s_))), (10, .int (nI b))]) hx hb dX5_isInside_217 hl (k := 7) rfl (show (nI a) + Int32.ofInt 1 = nI (a + 1) from nI_add a 1) (by decide) rfl (fun ls hl => ?_)
              refine lv_goto (tgt := 21) hx hb dX5_isInside_220 (by decide) ?_
              exact ih21 (a + 1) _ _ _ ⟨rfl, rfl, lv_sub hl [1, 2, 3, 4, 5, 6, 7, 0] rfl, ⟨by omega, by omega, fun j h1 h2 => by rcases Nat.lt_or_ge j a with h | h; exact hA j h1 h; rw [show j = a by omega]; first | exact (fun z => z.1 ⟨c30, c42, c55⟩) | (rintro ⟨-, w, w1, w2, w3⟩; exact hB w w1 (by omega) w3)⟩⟩ (by simp only []; omega)
            · rw [nI_leI (by omega) (by omega), Nat.not_le] at c69
              refine lv_iload hx hb dX5_isInside_72 (lv_at hl 4 rfl) ?_
              refine lv_if_eq (tgt := 105) hx hb dX5_isInside_74 (by decide) (fun c74 => ?_) (fun c74 => ?_)
              · replace c74 := bI_0 c74
                have hSb : ¬ mSkip fpx fpy lv x y b := by first | exact (fun h => absurd (h.1.symm.trans c74) (by decide)) | exact (fun h => c86 h.2.1) | exact (fun h => c99 h.2.2)
                refine lv_aload_n hx hb dX5_isInside_105 rfl (lv_at hl 0 rfl) ?_
                refine va_get (D := (dC, dI)) (ci := 5) (v := .ref apx) (C := RX5) (T := TX5) (N := 25) hx hb hts hi5 hown hK hP 0 rfl rfl 2 (by decide) f7 (fun _ h9 => h9) rfl dX5_isInside_106 ?_
                refine lv_iload hx hb dX5_isInside_109 (lv_at hl 7 rfl) ?_
                refine va_lald hx hb hK hP 1 0 rfl rfl (vp_in_nI (show a < 256 by omega) (by omega)) dX5_isInside_111 ?_
                rw [show (nI a).toNatClampNeg = a from nI_clamp (show a < 2 ^ 31 by omega)]
                refine lv_aload_n hx hb dX5_isInside_112 rfl (lv_at hl 0 rfl) ?_
                refine va_get (D := (dC, dI)) (ci := 5) (v := .ref apy) (C := RX5) (T := TX5) (N := 25) hx hb hts hi5 hown hK hP 0 rfl rfl 3 (by decide) f13 (fun _ h9 => h9) rfl dX5_isInside_113 ?_
                refine lv_iload hx hb dX5_isInside_116 (lv_at hl 7 rfl) ?_
                refine va_lald hx hb hK hP 2 0 rfl rfl (vp_in_nI (show a < 256 by omega) (by omega)) dX5_isInside_118 ?_
                rw [show (nI a).toNatClampNeg = a from nI_clamp (show a < 2 ^ 31 by omega)]
                refine lv_aload_n hx hb dX5_isInside_119 rfl (lv_at hl 0 rfl) ?_
                refine va_get (D := (dC, dI)) (ci := 5) (v := .ref apx) (C := RX5) (T := TX5) (N := 25) hx hb hts hi5 hown hK hP 0 rfl rfl 2 (by decide) f7 (fun _ h9 => h9) rfl dX5_isInside_120 ?_
                refine lv_iload hx hb dX5_isInside_123 (lv_at hl 8 rfl) ?_
                refine va_lald hx hb hK hP 1 0 rfl rfl (vp_in_nI (show b < 256 by omega) (by omega)) dX5_isInside_125 ?_
                rw [show (nI b).toNatClampNeg = b from nI_clamp (show b < 2 ^ 31 by omega)]
                refine lv_aload_n hx hb dX5_isInside_126 rfl (lv_at hl 0 rfl) ?_
                refine va_get (D := (dC, dI)) (ci := 5) (v := .ref apy) (C := RX5) (T := TX5) (N := 25) hx hb hts hi5 hown hK hP 0 rfl rfl 3 (by decide) f13 (fun _ h9 => h9) rfl dX5_isInside_127 ?_
                refine lv_iload hx hb dX5_isInside_130 (lv_at hl 8 rfl) ?_
                refine va_lald hx hb hK hP 2 0 rfl rfl (vp_in_nI (show b < 256 by omega) (by omega)) dX5_isInside_132 ?_
                rw [show (nI b).toNatClampNeg = b from nI_clamp (show b < 2 ^ 31 by omega)]
                refine lv_lload_n hx hb dX5_isInside_133 rfl (lv_at hl 2 rfl) ?_
                refine lv_lload hx hb dX5_isInside_134 (lv_at hl 3 rfl) ?_
                refine kpSi (As := [.long (fpx a), .long (fpy a), .long (fpx b), .long (fpy b), .long x, .long y]) (rest := []) (WC := []) (tyC := []) ⟨hx, hb, hml, hown, hts⟩ (tX5_isOn l dC dI (fpx a) (fpy a) (fpx b) (fpy b) x y) (cwS 6 hts gX5_isInside_X5_isOn rfl rfl rfl (by decide +kernel) ⟨Nat.le_of_ble_eq_true rfl, Nat.le_of_ble_eq_true rfl⟩) (kPick (isC := []) hP rfl) (hK.sub [] rfl) rfl rfl hl.1 (Nat.le_of_ble_eq_true rfl) dX5_isInside_136 ⟨Nat.le_of_ble_eq_true rfl, Nat.le_of_ble_eq_true rfl⟩ ?_
                refine lv_if_eq (tgt := 144) hx hb dX5_isInside_139 (by decide) (fun c139 => ?_) (fun c139 => ?_)
                · replace c139 := bI_0 c139; replace c139 := pB_not c139
                  refine lv_iload hx hb dX5_isInside_144 (lv_at hl 8 rfl) ?_
                  refine lv_iconst (v := (nI 1)) hx hb dX5_isInside_146 (by decide) ?_
                  refine lv_iadd hx hb dX5_isInside_147 ?_
                  rw [show (nI b) + (nI 1) = (nI (b + 1)) from nI_add b 1]
                  refine lv_istore (lv' := [(11, .int (nI (b + 1))), (0, .ref om), (1, .int (nI s_)), (2, .long x), (4, .long y), (6, .int (bI lv)), (7, .int (nI (16 * s_))), (8, .int (nI (16 * s_ + ct s_))), (9, .int (nI a)), (10, .int (nI b))]) hx hb dX5_isInside_148 hl (by decide) rfl (fun ls hl => ?_)
                  refine kLoop (σ := Nat) (fun xz H locs ls => match xz with | d => (H = s.heap) ∧ (locs = []) ∧ (lv_has ls 12 [(0, .ref om), (1, .int (nI s_)), (2, .long x), (4, .long y), (6, .int (bI lv)), (7, .int (nI (16 * s_))), (8, .int (nI (16 * s_ + ct s_))), (9, .int (nI a)), (10, .int (nI b)), (11, .int (nI d))]) ∧ (b < d ∧ d ≤ 16 * s_ + ct s_ ∧ ∀ j, b < j → j < d → ¬ (¬ mSkip fpx fpy lv x y j ∧ mTri fpx fpy a b j x y))) (fun xz => match xz with | d => 16 * s_ + ct s_ - d) ?_ (b + 1) ?_
                  · rintro d H locs ls hI ih150
                    obtain ⟨hHe, hLe, hl, hi150_⟩ := hI
                    subst hHe
                    subst hLe
                    obtain ⟨hbd, hdt, hC⟩ := hi150_
                    refine lv_iload hx hb dX5_isInside_150 (lv_at hl 9 rfl) ?_
                    refine lv_iload hx hb dX5_isInside_152 (lv_at hl 6 rfl) ?_
                    refine lv_icmp_ge (tgt := 211) hx hb dX5_isInside_154 (by decide) (fun c154 => ?_) (fun c154 => ?_)
                    · rw [nI_leI (by omega) (by omega)] at c154
                      refine lv_iinc (v := (nI (b + 1))) (lv' := [(10, .int (nI (b + 1))), (0, .ref om), (1, .int (nI s_)), (2, .long x), (4, .long y), (6, .int (bI lv)), (7, .int (nI (16 * s_))), (8, .int (nI (16 * s_ + ct s_))), (9, .int (nI a)), (11, .int (nI d))]) hx hb dX5_isInside_211 hl (k := 8) rfl (show (nI b) + Int32.ofInt 1 = nI (b + 1) from nI_add b 1) (by decide) rfl (fun ls hl => ?_)
                      refine lv_goto (tgt := 65) hx hb dX5_isInside_214 (by decide) ?_
                      exact ih65 (b + 1) _ _ _ ⟨rfl, rfl, lv_sub hl [1, 2, 3, 4, 5, 6, 7, 8, 0] rfl, ⟨by omega, by omega, fun j h1 h2 => by rcases Nat.lt_or_ge j b with h | h; exact hB j h1 h; rw [show j = b by omega]; first | exact (fun z => z.1 ⟨c74, c86, c99⟩) | exact (fun z => z.2.elim c139 (fun ⟨w, w1, w2, w3⟩ => hC w w1 (by omega) w3))⟩⟩ (by simp only []; omega)
                    · rw [nI_leI (by omega) (by omega), Nat.not_le] at c154
                      refine lv_iload hx hb dX5_isInside_157 (lv_at hl 4 rfl) ?_
                      refine lv_if_eq (tgt := 187) hx hb dX5_isInside_159 (by decide) (fun c159 => ?_) (fun c159 => ?_)
                      · replace c159 := bI_0 c159
                        have hSd : ¬ mSkip fpx fpy lv x y d := by first | exact (fun h => absurd (h.1.symm.trans c159) (by decide)) | exact (fun h => c171 h.2.1) | exact (fun h => c184 h.2.2)
                        refine lv_aload_n hx hb dX5_isInside_187 rfl (lv_at hl 0 rfl) ?_
                        refine lv_iload hx hb dX5_isInside_188 (lv_at hl 7 rfl) ?_
                        refine lv_iload hx hb dX5_isInside_190 (lv_at hl 8 rfl) ?_
                        refine lv_iload hx hb dX5_isInside_192 (lv_at hl 9 rfl) ?_
                        refine lv_lload_n hx hb dX5_isInside_194 rfl (lv_at hl 2 rfl) ?_
                        refine lv_lload hx hb dX5_isInside_195 (lv_at hl 3 rfl) ?_
                        refine kpVi (q0 := 0) (ci := 5) (As := [.int (nI a), .int (nI b), .int (nI d), .long x, .long y]) (rest := []) (WC := [(om, .inr (5, [.int (nI cd), .int (nI ns), .ref apx, .ref apy, .ref act, .int (nI nb), .ref asd, .ref amv, .ref asl, .ref apl, .ref asw, .int (nI nw), .ref aor, .int (nI nc), .ref aon, .ref atw, .long mx, .long my, .ref aup, .ref alw, .int (nI nm), .long up, .long lo, .long rx, .long ry])), (apx, .inl (cJ, 256, .inr (.inl fpx))), (apy, .inl (cJ, 256, .inr (.inl fpy)))]) (tyC := [(cJ, .long), (cI, .int), (cZ, .boolean)]) ⟨hx, hb, hml, hown, hts⟩ (tX5_isInTriangle l dC dI cJ cI cZ om cd ns apx apy act nb asd amv asl apl asw nw aor nc aon atw aup alw nm mx my up lo rx ry fpx fpy a b d x y (by omega) (by omega) (by omega)) (cwV 5 hts gX5_isInside_X5_isInTriangle rfl rfl rfl (by decide +kernel) ⟨Nat.le_of_ble_eq_true rfl, Nat.le_of_ble_eq_true rfl⟩) (kPick (isC := [0, 1, 2]) hP rfl) (hK.sub [0, 1, 2] rfl) rfl rfl rfl rfl hl.1 (Nat.le_of_ble_eq_true rfl) dX5_isInside_197 ⟨Nat.le_of_ble_eq_true rfl, Nat.le_of_ble_eq_true rfl⟩ ?_
                        refine lv_if_eq (tgt := 205) hx hb dX5_isInside_200 (by decide) (fun c200 => ?_) (fun c200 => ?_)
                        · replace c200 := bI_0 c200; replace c200 := pB_not c200
                          refine lv_iinc (v := (nI (d + 1))) (lv' := [(11, .int (nI (d + 1))), (0, .ref om), (1, .int (nI s_)), (2, .long x), (4, .long y), (6, .int (bI lv)), (7, .int (nI (16 * s_))), (8, .int (nI (16 * s_ + ct s_))), (9, .int (nI a)), (10, .int (nI b))]) hx hb dX5_isInside_205 hl (k := 9) rfl (show (nI d) + Int32.ofInt 1 = nI (d + 1) from nI_add d 1) (by decide) rfl (fun ls hl => ?_)
                          refine lv_goto (tgt := 150) hx hb dX5_isInside_208 (by decide) ?_
                          exact ih150 (d + 1) _ _ _ ⟨rfl, rfl, lv_sub hl [1, 2, 3, 4, 5, 6, 7, 8, 9, 0] rfl, ⟨by omega, by omega, fun j h1 h2 => by rcases Nat.lt_or_ge j d with h | h; exact hC j h1 h; rw [show j = d by omega]; first | exact (fun z => z.1 ⟨c159, c171, c184⟩) | exact (fun z => c200 z.2)⟩⟩ (by simp only []; omega)
                        · replace c200 := bI_n c200; replace c200 := pB_iff.mp c200
                          refine lv_iconst (v := (nI 1)) hx hb dX5_isInside_203 (by decide) ?_
                          exact kRz hx hb hr hlocks dX5_isInside_204 (kp1 ⟨a, hfa, c25, hSa, b, hab, c69, hSb, Or.inr ⟨d, hbd, c154, hSd, c200⟩⟩)
                      · replace c159 := bI_n c159
                        refine lv_aload_n hx hb dX5_isInside_162 rfl (lv_at hl 0 rfl) ?_
                        refine va_get (D := (dC, dI)) (ci := 5) (v := .ref apx) (C := RX5) (T := TX5) (N := 25) hx hb hts hi5 hown hK hP 0 rfl rfl 2 (by decide) f7 (fun _ h9 => h9) rfl dX5_isInside_163 ?_
                        refine lv_iload hx hb dX5_isInside_166 (lv_at hl 9 rfl) ?_
                        refine va_lald hx hb hK hP 1 0 rfl rfl (vp_in_nI (show d < 256 by omega) (by omega)) dX5_isInside_168 ?_
                        rw [show (nI d).toNatClampNeg = d from nI_clamp (show d < 2 ^ 31 by omega)]
                        refine lv_lload_n hx hb dX5_isInside_169 rfl (lv_at hl 2 rfl) ?_
                        refine W.lcmp hx hb dX5_isInside_170 ?_
                        refine lv_if_ne (tgt := 187) hx hb dX5_isInside_171 (by decide) (fun c171 => ?_) (fun c171 => ?_)
                        · simp only [ne_eq, lg_cmp_eq] at c171
                          have hSd : ¬ mSkip fpx fpy lv x y d := by first | exact (fun h => absurd (h.1.symm.trans c159) (by decide)) | exact (fun h => c171 h.2.1) | exact (fun h => c184 h.2.2)
                          refine lv_aload_n hx hb dX5_isInside_187 rfl (lv_at hl 0 rfl) ?_
                          refine lv_iload hx hb dX5_isInside_188 (lv_at hl 7 rfl) ?_
                          refine lv_iload hx hb dX5_isInside_190 (lv_at hl 8 rfl) ?_
                          refine lv_iload hx hb dX5_isInside_192 (lv_at hl 9 rfl) ?_
                          refine lv_lload_n hx hb dX5_isInside_194 rfl (lv_at hl 2 rfl) ?_
                          refine lv_lload hx hb dX5_isInside_195 (lv_at hl 3 rfl) ?_
                          refine kpVi (q0 := 0) (ci := 5) (As := [.int (nI a), .int (nI b), .int (nI d), .long x, .long y]) (rest := []) (WC := [(om, .inr (5, [.int (nI cd), .int (nI ns), .ref apx, .ref apy, .ref act, .int (nI nb), .ref asd, .ref amv, .ref asl, .ref apl, .ref asw, .int (nI nw), .ref aor, .int (nI nc), .ref aon, .ref atw, .long mx, .long my, .ref aup, .ref alw, .int (nI nm), .long up, .long lo, .long rx, .long ry])), (apx, .inl (cJ, 256, .inr (.inl fpx))), (apy, .inl (cJ, 256, .inr (.inl fpy)))]) (tyC := [(cJ, .long), (cI, .int), (cZ, .boolean)]) ⟨hx, hb, hml, hown, hts⟩ (tX5_isInTriangle l dC dI cJ cI cZ om cd ns apx apy act nb asd amv asl apl asw nw aor nc aon atw aup alw nm mx my up lo rx ry fpx fpy a b d x y (by omega) (by omega) (by omega)) (cwV 5 hts gX5_isInside_X5_isInTriangle rfl rfl rfl (by decide +kernel) ⟨Nat.le_of_ble_eq_true rfl, Nat.le_of_ble_eq_true rfl⟩) (kPick (isC := [0, 1, 2]) hP rfl) (hK.sub [0, 1, 2] rfl) rfl rfl rfl rfl hl.1 (Nat.le_of_ble_eq_true rfl) dX5_isInside_197 ⟨Nat.le_of_ble_eq_true rfl, Nat.le_of_ble_eq_true rfl⟩ ?_
                          refine lv_if_eq (tgt := 205) hx hb dX5_isInside_200 (by decide) (fun c200 => ?_) (fun c200 => ?_)
                          · replace c200 := bI_0 c200; replace c200 := pB_not c200
                            refine lv_iinc (v := (nI (d + 1))) (lv' := [(11, .int (nI (d + 1))), (0, .ref om), (1, .int (nI s_)), (2, .long x), (4, .long y), (6, .int (bI lv)), (7, .int (nI (16 * s_))), (8, .int (nI (16 * s_ + ct s_))), (9, .int (nI a)), (10, .int (nI b))]) hx hb dX5_isInside_205 hl (k := 9) rfl (show (nI d) + Int32.ofInt 1 = nI (d + 1) from nI_add d 1) (by decide) rfl (fun ls hl => ?_)
                            refine lv_goto (tgt := 150) hx hb dX5_isInside_208 (by decide) ?_
                            exact ih150 (d + 1) _ _ _ ⟨rfl, rfl, lv_sub hl [1, 2, 3, 4, 5, 6, 7, 8, 9, 0] rfl, ⟨by omega, by omega, fun j h1 h2 => by rcases Nat.lt_or_ge j d with h | h; exact hC j h1 h; rw [show j = d by omega]; first | exact (fun z => z.1 ⟨c159, c171, c184⟩) | exact (fun z => c200 z.2)⟩⟩ (by simp only []; omega)
                          · replace c200 := bI_n c200; replace c200 := pB_iff.mp c200
                            refine lv_iconst (v := (nI 1)) hx hb dX5_isInside_203 (by decide) ?_
                            exact kRz hx hb hr hlocks dX5_isInside_204 (kp1 ⟨a, hfa, c25, hSa, b, hab, c69, hSb, Or.inr ⟨d, hbd, c154, hSd, c200⟩⟩)
                        · simp only [ne_eq, Decidable.not_not, lg_cmp_eq] at c171
                          refine lv_aload_n hx hb dX5_isInside_174 rfl (lv_at hl 0 rfl) ?_
                          refine va_get (D := (dC, dI)) (ci := 5) (v := .ref apy) (C := RX5) (T := TX5) (N := 25) hx hb hts hi5 hown hK hP 0 rfl rfl 3 (by decide) f13 (fun _ h9 => h9) rfl dX5_isInside_175 ?_
                          refine lv_iload hx hb dX5_isInside_178 (lv_at hl 9 rfl) ?_
                          refine va_lald hx hb hK hP 2 0 rfl rfl (vp_in_nI (show d < 256 by omega) (by omega)) dX5_isInside_180 ?_
                          rw [show (nI d).toNatClampNeg = d from nI_clamp (show d < 2 ^ 31 by omega)]
                          refine lv_lload hx hb dX5_isInside_181 (lv_at hl 3 rfl) ?_
                          refine W.lcmp hx hb dX5_isInside_183 ?_
                          refine lv_if_eq (tgt := 205) hx hb dX5_isInside_184 (by decide) (fun c184 => ?_) (fun c184 => ?_)
                          · rw [lg_cmp_eq] at c184
                            refine lv_iinc (v := (nI (d + 1))) (lv' := [(11, .int (nI (d + 1))), (0, .ref om), (1, .int (nI s_)), (2, .long x), (4, .long y), (6, .int (bI lv)), (7, .int (nI (16 * s_))), (8, .int (nI (16 * s_ + ct s_))), (9, .int (nI a)), (10, .int (nI b))]) hx hb dX5_isInside_205 hl (k := 9) rfl (show (nI d) + Int32.ofInt 1 = nI (d + 1) from nI_add d 1) (by decide) rfl (fun ls hl => ?_)
                            refine lv_goto (tgt := 150) hx hb dX5_isInside_208 (by decide) ?_
                            exact ih150 (d + 1) _ _ _ ⟨rfl, rfl, lv_sub hl [1, 2, 3, 4, 5, 6, 7, 8, 9, 0] rfl, ⟨by omega, by omega, fun j h1 h2 => by rcases Nat.lt_or_ge j d with h | h; exact hC j h1 h; rw [show j = d by omega]; first | exact (fun z => z.1 ⟨c159, c171, c184⟩) | exact (fun z => c200 z.2)⟩⟩ (by simp only []; omega)
                          · rw [lg_cmp_eq] at c184
                            have hSd : ¬ mSkip fpx fpy lv x y d := by first | exact (fun h => absurd (h.1.symm.trans c159) (by decide)) | exact (fun h => c171 h.2.1) | exact (fun h => c184 h.2.2)
                            refine lv_aload_n hx hb dX5_isInside_187 rfl (lv_at hl 0 rfl) ?_
                            refine lv_iload hx hb dX5_isInside_188 (lv_at hl 7 rfl) ?_
                            refine lv_iload hx hb dX5_isInside_190 (lv_at hl 8 rfl) ?_
                            refine lv_iload hx hb dX5_isInside_192 (lv_at hl 9 rfl) ?_
                            refine lv_lload_n hx hb dX5_isInside_194 rfl (lv_at hl 2 rfl) ?_
                            refine lv_lload hx hb dX5_isInside_195 (lv_at hl 3 rfl) ?_
                            refine kpVi (q0 := 0) (ci := 5) (As := [.int (nI a), .int (nI b), .int (nI d), .long x, .long y]) (rest := []) (WC := [(om, .inr (5, [.int (nI cd), .int (nI ns), .ref apx, .ref apy, .ref act, .int (nI nb), .ref asd, .ref amv, .ref asl, .ref apl, .ref asw, .int (nI nw), .ref aor, .int (nI nc), .ref aon, .ref atw, .long mx, .long my, .ref aup, .ref alw, .int (nI nm), .long up, .long lo, .long rx, .long ry])), (apx, .inl (cJ, 256, .inr (.inl fpx))), (apy, .inl (cJ, 256, .inr (.inl fpy)))]) (tyC := [(cJ, .long), (cI, .int), (cZ, .boolean)]) ⟨hx, hb, hml, hown, hts⟩ (tX5_isInTriangle l dC dI cJ cI cZ om cd ns apx apy act nb asd amv asl apl asw nw aor nc aon atw aup alw nm mx my up lo rx ry fpx fpy a b d x y (by omega) (by omega) (by omega)) (cwV 5 hts gX5_isInside_X5_isInTriangle rfl rfl rfl (by decide +kernel) ⟨Nat.le_of_ble_eq_true rfl, Nat.le_of_ble_eq_true rfl⟩) (kPick (isC := [0, 1, 2]) hP rfl) (hK.sub [0, 1, 2] rfl) rfl rfl rfl rfl hl.1 (Nat.le_of_ble_eq_true rfl) dX5_isInside_197 ⟨Nat.le_of_ble_eq_true rfl, Nat.le_of_ble_eq_true rfl⟩ ?_
                            refine lv_if_eq (tgt := 205) hx hb dX5_isInside_200 (by decide) (fun c200 => ?_) (fun c200 => ?_)
                            · replace c200 := bI_0 c200; replace c200 := pB_not c200
                              refine lv_iinc (v := (nI (d + 1))) (lv' := [(11, .int (nI (d + 1))), (0, .ref om), (1, .int (nI s_)), (2, .long x), (4, .long y), (6, .int (bI lv)), (7, .int (nI (16 * s_))), (8, .int (nI (16 * s_ + ct s_))), (9, .int (nI a)), (10, .int (nI b))]) hx hb dX5_isInside_205 hl (k := 9) rfl (show (nI d) + Int32.ofInt 1 = nI (d + 1) from nI_add d 1) (by decide) rfl (fun ls hl => ?_)
                              refine lv_goto (tgt := 150) hx hb dX5_isInside_208 (by decide) ?_
                              exact ih150 (d + 1) _ _ _ ⟨rfl, rfl, lv_sub hl [1, 2, 3, 4, 5, 6, 7, 8, 9, 0] rfl, ⟨by omega, by omega, fun j h1 h2 => by rcases Nat.lt_or_ge j d with h | h; exact hC j h1 h; rw [show j = d by omega]; first | exact (fun z => z.1 ⟨c159, c171, c184⟩) | exact (fun z => c200 z.2)⟩⟩ (by simp only []; omega)
                            · replace c200 := bI_n c200; replace c200 := pB_iff.mp c200
                              refine lv_iconst (v := (nI 1)) hx hb dX5_isInside_203 (by decide) ?_
                              exact kRz hx hb hr hlocks dX5_isInside_204 (kp1 ⟨a, hfa, c25, hSa, b, hab, c69, hSb, Or.inr ⟨d, hbd, c154, hSd, c200⟩⟩)
                  · exact ⟨rfl, rfl, lv_sub hl [1, 2, 3, 4, 5, 6, 7, 8, 9, 0] rfl, ⟨by omega, by omega, fun j h1 h2 => absurd h2 (by omega)⟩⟩
                · replace c139 := bI_n c139; replace c139 := pB_iff.mp c139
                  refine lv_iconst (v := (nI 1)) hx hb dX5_isInside_142 (by decide) ?_
                  exact kRz hx hb hr hlocks dX5_isInside_143 (kp1 ⟨a, hfa, c25, hSa, b, hab, c69, hSb, Or.inl c139⟩)
              · replace c74 := bI_n c74
                refine lv_aload_n hx hb dX5_isInside_77 rfl (lv_at hl 0 rfl) ?_
                refine va_get (D := (dC, dI)) (ci := 5) (v := .ref apx) (C := RX5) (T := TX5) (N := 25) hx hb hts hi5 hown hK hP 0 rfl rfl 2 (by decide) f7 (fun _ h9 => h9) rfl dX5_isInside_78 ?_
                refine lv_iload hx hb dX5_isInside_81 (lv_at hl 8 rfl) ?_
                refine va_lald hx hb hK hP 1 0 rfl rfl (vp_in_nI (show b < 256 by omega) (by omega)) dX5_isInside_83 ?_
                rw [show (nI b).toNatClampNeg = b from nI_clamp (show b < 2 ^ 31 by omega)]
                refine lv_lload_n hx hb dX5_isInside_84 rfl (lv_at hl 2 rfl) ?_
                refine W.lcmp hx hb dX5_isInside_85 ?_
                refine lv_if_ne (tgt := 105) hx hb dX5_isInside_86 (by decide) (fun c86 => ?_) (fun c86 => ?_)
                · simp only [ne_eq, lg_cmp_eq] at c86
                  have hSb : ¬ mSkip fpx fpy lv x y b := by first | exact (fun h => absurd (h.1.symm.trans c74) (by decide)) | exact (fun h => c86 h.2.1) | exact (fun h => c99 h.2.2)
                  refine lv_aload_n hx hb dX5_isInside_105 rfl (lv_at hl 0 rfl) ?_
                  refine va_get (D := (dC, dI)) (ci := 5) (v := .ref apx) (C := RX5) (T := TX5) (N := 25) hx hb hts hi5 hown hK hP 0 rfl rfl 2 (by decide) f7 (fun _ h9 => h9) rfl dX5_isInside_106 ?_
                  refine lv_iload hx hb dX5_isInside_109 (lv_at hl 7 rfl) ?_
                  refine va_lald hx hb hK hP 1 0 rfl rfl (vp_in_nI (show a < 256 by omega) (by omega)) dX5_isInside_111 ?_
                  rw [show (nI a).toNatClampNeg = a from nI_clamp (show a < 2 ^ 31 by omega)]
                  refine lv_aload_n hx hb dX5_isInside_112 rfl (lv_at hl 0 rfl) ?_
                  refine va_get (D := (dC, dI)) (ci := 5) (v := .ref apy) (C := RX5) (T := TX5) (N := 25) hx hb hts hi5 hown hK hP 0 rfl rfl 3 (by decide) f13 (fun _ h9 => h9) rfl dX5_isInside_113 ?_
                  refine lv_iload hx hb dX5_isInside_116 (lv_at hl 7 rfl) ?_
                  refine va_lald hx hb hK hP 2 0 rfl rfl (vp_in_nI (show a < 256 by omega) (by omega)) dX5_isInside_118 ?_
                  rw [show (nI a).toNatClampNeg = a from nI_clamp (show a < 2 ^ 31 by omega)]
                  refine lv_aload_n hx hb dX5_isInside_119 rfl (lv_at hl 0 rfl) ?_
                  refine va_get (D := (dC, dI)) (ci := 5) (v := .ref apx) (C := RX5) (T := TX5) (N := 25) hx hb hts hi5 hown hK hP 0 rfl rfl 2 (by decide) f7 (fun _ h9 => h9) rfl dX5_isInside_120 ?_
                  refine lv_iload hx hb dX5_isInside_123 (lv_at hl 8 rfl) ?_
                  refine va_lald hx hb hK hP 1 0 rfl rfl (vp_in_nI (show b < 256 by omega) (by omega)) dX5_isInside_125 ?_
                  rw [show (nI b).toNatClampNeg = b from nI_clamp (show b < 2 ^ 31 by omega)]
                  refine lv_aload_n hx hb dX5_isInside_126 rfl (lv_at hl 0 rfl) ?_
                  refine va_get (D := (dC, dI)) (ci := 5) (v := .ref apy) (C := RX5) (T := TX5) (N := 25) hx hb hts hi5 hown hK hP 0 rfl rfl 3 (by decide) f13 (fun _ h9 => h9) rfl dX5_isInside_127 ?_
                  refine lv_iload hx hb dX5_isInside_130 (lv_at hl 8 rfl) ?_
                  refine va_lald hx hb hK hP 2 0 rfl rfl (vp_in_nI (show b < 256 by omega) (by omega)) dX5_isInside_132 ?_
                  rw [show (nI b).toNatClampNeg = b from nI_clamp (show b < 2 ^ 31 by omega)]
                  refine lv_lload_n hx hb dX5_isInside_133 rfl (lv_at hl 2 rfl) ?_
                  refine lv_lload hx hb dX5_isInside_134 (lv_at hl 3 rfl) ?_
                  refine kpSi (As := [.long (fpx a), .long (fpy a), .long (fpx b), .long (fpy b), .long x, .long y]) (rest := []) (WC := []) (tyC := []) ⟨hx, hb, hml, hown, hts⟩ (tX5_isOn l dC dI (fpx a) (fpy a) (fpx b) (fpy b) x y) (cwS 6 hts gX5_isInside_X5_isOn rfl rfl rfl (by decide +kernel) ⟨Nat.le_of_ble_eq_true rfl, Nat.le_of_ble_eq_true rfl⟩) (kPick (isC := []) hP rfl) (hK.sub [] rfl) rfl rfl hl.1 (Nat.le_of_ble_eq_true rfl) dX5_isInside_136 ⟨Nat.le_of_ble_eq_true rfl, Nat.le_of_ble_eq_true rfl⟩ ?_
                  refine lv_if_eq (tgt := 144) hx hb dX5_isInside_139 (by decide) (fun c139 => ?_) (fun c139 => ?_)
                  · replace c139 := bI_0 c139; replace c139 := pB_not c139
                    refine lv_iload hx hb dX5_isInside_144 (lv_at hl 8 rfl) ?_
                    refine lv_iconst (v := (nI 1)) hx hb dX5_isInside_146 (by decide) ?_
                    refine lv_iadd hx hb dX5_isInside_147 ?_
                    rw [show (nI b) + (nI 1) = (nI (b + 1)) from nI_add b 1]
                    refine lv_istore (lv' := [(11, .int (nI (b + 1))), (0, .ref om), (1, .int (nI s_)), (2, .long x), (4, .long y), (6, .int (bI lv)), (7, .int (nI (16 * s_))), (8, .int (nI (16 * s_ + ct s_))), (9, .int (nI a)), (10, .int (nI b))]) hx hb dX5_isInside_148 hl (by decide) rfl (fun ls hl => ?_)
                    refine kLoop (σ := Nat) (fun xz H locs ls => match xz with | d => (H = s.heap) ∧ (locs = []) ∧ (lv_has ls 12 [(0, .ref om), (1, .int (nI s_)), (2, .long x), (4, .long y), (6, .int (bI lv)), (7, .int (nI (16 * s_))), (8, .int (nI (16 * s_ + ct s_))), (9, .int (nI a)), (10, .int (nI b)), (11, .int (nI d))]) ∧ (b < d ∧ d ≤ 16 * s_ + ct s_ ∧ ∀ j, b < j → j < d → ¬ (¬ mSkip fpx fpy lv x y j ∧ mTri fpx fpy a b j x y))) (fun xz => match xz with | d => 16 * s_ + ct s_ - d) ?_ (b + 1) ?_
                    · rintro d H locs ls hI ih150
                      obtain ⟨hHe, hLe, hl, hi150_⟩ := hI
                      subst hHe
                      subst hLe
                      obtain ⟨hbd, hdt, hC⟩ := hi150_
                      refine lv_iload hx hb dX5_isInside_150 (lv_at hl 9 rfl) ?_
                      refine lv_iload hx hb dX5_isInside_152 (lv_at hl 6 rfl) ?_
                      refine lv_icmp_ge (tgt := 211) hx hb dX5_isInside_154 (by decide) (fun c154 => ?_) (fun c154 => ?_)
                      · rw [nI_leI (by omega) (by omega)] at c154
                        refine lv_iinc (v := (nI (b + 1))) (lv' := [(10, .int (nI (b + 1))), (0, .ref om), (1, .int (nI s_)), (2, .long x), (4, .long y), (6, .int (bI lv)), (7, .int (nI (16 * s_))), (8, .int (nI (16 * s_ + ct s_))), (9, .int (nI a)), (11, .int (nI d))]) hx hb dX5_isInside_211 hl (k := 8) rfl (show (nI b) + Int32.ofInt 1 = nI (b + 1) from nI_add b 1) (by decide) rfl (fun ls hl => ?_)
                        refine lv_goto (tgt := 65) hx hb dX5_isInside_214 (by decide) ?_
                        exact ih65 (b + 1) _ _ _ ⟨rfl, rfl, lv_sub hl [1, 2, 3, 4, 5, 6, 7, 8, 0] rfl, ⟨by omega, by omega, fun j h1 h2 => by rcases Nat.lt_or_ge j b with h | h; exact hB j h1 h; rw [show j = b by omega]; first | exact (fun z => z.1 ⟨c74, c86, c99⟩) | exact (fun z => z.2.elim c139 (fun ⟨w, w1, w2, w3⟩ => hC w w1 (by omega) w3))⟩⟩ (by simp only []; omega)
                      · rw [nI_leI (by omega) (by omega), Nat.not_le] at c154
                        refine lv_iload hx hb dX5_isInside_157 (lv_at hl 4 rfl) ?_
                        refine lv_if_eq (tgt := 187) hx hb dX5_isInside_159 (by decide) (fun c159 => ?_) (fun c159 => ?_)
                        · replace c159 := bI_0 c159
                          have hSd : ¬ mSkip fpx fpy lv x y d := by first | exact (fun h => absurd (h.1.symm.trans c159) (by decide)) | exact (fun h => c171 h.2.1) | exact (fun h => c184 h.2.2)
                          refine lv_aload_n hx hb dX5_isInside_187 rfl (lv_at hl 0 rfl) ?_
                          refine lv_iload hx hb dX5_isInside_188 (lv_at hl 7 rfl) ?_
                          refine lv_iload hx hb dX5_isInside_190 (lv_at hl 8 rfl) ?_
                          refine lv_iload hx hb dX5_isInside_192 (lv_at hl 9 rfl) ?_
                          refine lv_lload_n hx hb dX5_isInside_194 rfl (lv_at hl 2 rfl) ?_
                          refine lv_lload hx hb dX5_isInside_195 (lv_at hl 3 rfl) ?_
                          refine kpVi (q0 := 0) (ci := 5) (As := [.int (nI a), .int (nI b), .int (nI d), .long x, .long y]) (rest := []) (WC := [(om, .inr (5, [.int (nI cd), .int (nI ns), .ref apx, .ref apy, .ref act, .int (nI nb), .ref asd, .ref amv, .ref asl, .ref apl, .ref asw, .int (nI nw), .ref aor, .int (nI nc), .ref aon, .ref atw, .long mx, .long my, .ref aup, .ref alw, .int (nI nm), .long up, .long lo, .long rx, .long ry])), (apx, .inl (cJ, 256, .inr (.inl fpx))), (apy, .inl (cJ, 256, .inr (.inl fpy)))]) (tyC := [(cJ, .long), (cI, .int), (cZ, .boolean)]) ⟨hx, hb, hml, hown, hts⟩ (tX5_isInTriangle l dC dI cJ cI cZ om cd ns apx apy act nb asd amv asl apl asw nw aor nc aon atw aup alw nm mx my up lo rx ry fpx fpy a b d x y (by omega) (by omega) (by omega)) (cwV 5 hts gX5_isInside_X5_isInTriangle rfl rfl rfl (by decide +kernel) ⟨Nat.le_of_ble_eq_true rfl, Nat.le_of_ble_eq_true rfl⟩) (kPick (isC := [0, 1, 2]) hP rfl) (hK.sub [0, 1, 2] rfl) rfl rfl rfl rfl hl.1 (Nat.le_of_ble_eq_true rfl) dX5_isInside_197 ⟨Nat.le_of_ble_eq_true rfl, Nat.le_of_ble_eq_true rfl⟩ ?_
                          refine lv_if_eq (tgt := 205) hx hb dX5_isInside_200 (by decide) (fun c200 => ?_) (fun c200 => ?_)
                          · replace c200 := bI_0 c200; replace c200 := pB_not c200
                            refine lv_iinc (v := (nI (d + 1))) (lv' := [(11, .int (nI (d + 1))), (0, .ref om), (1, .int (nI s_)), (2, .long x), (4, .long y), (6, .int (bI lv)), (7, .int (nI (16 * s_))), (8, .int (nI (16 * s_ + ct s_))), (9, .int (nI a)), (10, .int (nI b))]) hx hb dX5_isInside_205 hl (k := 9) rfl (show (nI d) + Int32.ofInt 1 = nI (d + 1) from nI_add d 1) (by decide) rfl (fun ls hl => ?_)
                            refine lv_goto (tgt := 150) hx hb dX5_isInside_208 (by decide) ?_
                            exact ih150 (d + 1) _ _ _ ⟨rfl, rfl, lv_sub hl [1, 2, 3, 4, 5, 6, 7, 8, 9, 0] rfl, ⟨by omega, by omega, fun j h1 h2 => by rcases Nat.lt_or_ge j d with h | h; exact hC j h1 h; rw [show j = d by omega]; first | exact (fun z => z.1 ⟨c159, c171, c184⟩) | exact (fun z => c200 z.2)⟩⟩ (by simp only []; omega)
                          · replace c200 := bI_n c200; replace c200 := pB_iff.mp c200
                            refine lv_iconst (v := (nI 1)) hx hb dX5_isInside_203 (by decide) ?_
                            exact kRz hx hb hr hlocks dX5_isInside_204 (kp1 ⟨a, hfa, c25, hSa, b, hab, c69, hSb, Or.inr ⟨d, hbd, c154, hSd, c200⟩⟩)
                        · replace c159 := bI_n c159
                          refine lv_aload_n hx hb dX5_isInside_162 rfl (lv_at hl 0 rfl) ?_
                          refine va_get (D := (dC, dI)) (ci := 5) (v := .ref apx) (C := RX5) (T := TX5) (N := 25) hx hb hts hi5 hown hK hP 0 rfl rfl 2 (by decide) f7 (fun _ h9 => h9) rfl dX5_isInside_163 ?_
                          refine lv_iload hx hb dX5_isInside_166 (lv_at hl 9 rfl) ?_
                          refine va_lald hx hb hK hP 1 0 rfl rfl (vp_in_nI (show d < 256 by omega) (by omega)) dX5_isInside_168 ?_
                          rw [show (nI d).toNatClampNeg = d from nI_clamp (show d < 2 ^ 31 by omega)]
                          refine lv_lload_n hx hb dX5_isInside_169 rfl (lv_at hl 2 rfl) ?_
                          refine W.lcmp hx hb dX5_isInside_170 ?_
                          refine lv_if_ne (tgt := 187) hx hb dX5_isInside_171 (by decide) (fun c171 => ?_) (fun c171 => ?_)
                          · simp only [ne_eq, lg_cmp_eq] at c171
                            have hSd : ¬ mSkip fpx fpy lv x y d := by first | exact (fun h => absurd (h.1.symm.trans c159) (by decide)) | exact (fun h => c171 h.2.1) | exact (fun h => c184 h.2.2)
                            refine lv_aload_n hx hb dX5_isInside_187 rfl (lv_at hl 0 rfl) ?_
                            refine lv_iload hx hb dX5_isInside_188 (lv_at hl 7 rfl) ?_
                            refine lv_iload hx hb dX5_isInside_190 (lv_at hl 8 rfl) ?_
                            refine lv_iload hx hb dX5_isInside_192 (lv_at hl 9 rfl) ?_
                            refine lv_lload_n hx hb dX5_isInside_194 rfl (lv_at hl 2 rfl) ?_
                            refine lv_lload hx hb dX5_isInside_195 (lv_at hl 3 rfl) ?_
                            refine kpVi (q0 := 0) (ci := 5) (As := [.int (nI a), .int (nI b), .int (nI d), .long x, .long y]) (rest := []) (WC := [(om, .inr (5, [.int (nI cd), .int (nI ns), .ref apx, .ref apy, .ref act, .int (nI nb), .ref asd, .ref amv, .ref asl, .ref apl, .ref asw, .int (nI nw), .ref aor, .int (nI nc), .ref aon, .ref atw, .long mx, .long my, .ref aup, .ref alw, .int (nI nm), .long up, .long lo, .long rx, .long ry])), (apx, .inl (cJ, 256, .inr (.inl fpx))), (apy, .inl (cJ, 256, .inr (.inl fpy)))]) (tyC := [(cJ, .long), (cI, .int), (cZ, .boolean)]) ⟨hx, hb, hml, hown, hts⟩ (tX5_isInTriangle l dC dI cJ cI cZ om cd ns apx apy act nb asd amv asl apl asw nw aor nc aon atw aup alw nm mx my up lo rx ry fpx fpy a b d x y (by omega) (by omega) (by omega)) (cwV 5 hts gX5_isInside_X5_isInTriangle rfl rfl rfl (by decide +kernel) ⟨Nat.le_of_ble_eq_true rfl, Nat.le_of_ble_eq_true rfl⟩) (kPick (isC := [0, 1, 2]) hP rfl) (hK.sub [0, 1, 2] rfl) rfl rfl rfl rfl hl.1 (Nat.le_of_ble_eq_true rfl) dX5_isInside_197 ⟨Nat.le_of_ble_eq_true rfl, Nat.le_of_ble_eq_true rfl⟩ ?_
                            refine lv_if_eq (tgt := 205) hx hb dX5_isInside_200 (by decide) (fun c200 => ?_) (fun c200 => ?_)
                            · replace c200 := bI_0 c200; replace c200 := pB_not c200
                              refine lv_iinc (v := (nI (d + 1))) (lv' := [(11, .int (nI (d + 1))), (0, .ref om), (1, .int (nI s_)), (2, .long x), (4, .long y), (6, .int (bI lv)), (7, .int (nI (16 * s_))), (8, .int (nI (16 * s_ + ct s_))), (9, .int (nI a)), (10, .int (nI b))]) hx hb dX5_isInside_205 hl (k := 9) rfl (show (nI d) + Int32.ofInt 1 = nI (d + 1) from nI_add d 1) (by decide) rfl (fun ls hl => ?_)
                              refine lv_goto (tgt := 150) hx hb dX5_isInside_208 (by decide) ?_
                              exact ih150 (d + 1) _ _ _ ⟨rfl, rfl, lv_sub hl [1, 2, 3, 4, 5, 6, 7, 8, 9, 0] rfl, ⟨by omega, by omega, fun j h1 h2 => by rcases Nat.lt_or_ge j d with h | h; exact hC j h1 h; rw [show j = d by omega]; first | exact (fun z => z.1 ⟨c159, c171, c184⟩) | exact (fun z => c200 z.2)⟩⟩ (by simp only []; omega)
                            · replace c200 := bI_n c200; replace c200 := pB_iff.mp c200
                              refine lv_iconst (v := (nI 1)) hx hb dX5_isInside_203 (by decide) ?_
                              exact kRz hx hb hr hlocks dX5_isInside_204 (kp1 ⟨a, hfa, c25, hSa, b, hab, c69, hSb, Or.inr ⟨d, hbd, c154, hSd, c200⟩⟩)
                          · simp only [ne_eq, Decidable.not_not, lg_cmp_eq] at c171
                            refine lv_aload_n hx hb dX5_isInside_174 rfl (lv_at hl 0 rfl) ?_
                            refine va_get (D := (dC, dI)) (ci := 5) (v := .ref apy) (C := RX5) (T := TX5) (N := 25) hx hb hts hi5 hown hK hP 0 rfl rfl 3 (by decide) f13 (fun _ h9 => h9) rfl dX5_isInside_175 ?_
                            refine lv_iload hx hb dX5_isInside_178 (lv_at hl 9 rfl) ?_
                            refine va_lald hx hb hK hP 2 0 rfl rfl (vp_in_nI (show d < 256 by omega) (by omega)) dX5_isInside_180 ?_
                            rw [show (nI d).toNatClampNeg = d from nI_clamp (show d < 2 ^ 31 by omega)]
                            refine lv_lload hx hb dX5_isInside_181 (lv_at hl 3 rfl) ?_
                            refine W.lcmp hx hb dX5_isInside_183 ?_
                            refine lv_if_eq (tgt := 205) hx hb dX5_isInside_184 (by decide) (fun c184 => ?_) (fun c184 => ?_)
                            · rw [lg_cmp_eq] at c184
                              refine lv_iinc (v := (nI (d + 1))) (lv' := [(11, .int (nI (d + 1))), (0, .ref om), (1, .int (nI s_)), (2, .long x), (4, .long y), (6, .int (bI lv)), (7, .int (nI (16 * s_))), (8, .int (nI (16 * s_ + ct s_))), (9, .int (nI a)), (10, .int (nI b))]) hx hb dX5_isInside_205 hl (k := 9) rfl (show (nI d) + Int32.ofInt 1 = nI (d + 1) from nI_add d 1) (by decide) rfl (fun ls hl => ?_)
                              refine lv_goto (tgt := 150) hx hb dX5_isInside_208 (by decide) ?_
                              exact ih150 (d + 1) _ _ _ ⟨rfl, rfl, lv_sub hl [1, 2, 3, 4, 5, 6, 7, 8, 9, 0] rfl, ⟨by omega, by omega, fun j h1 h2 => by rcases Nat.lt_or_ge j d with h | h; exact hC j h1 h; rw [show j = d by omega]; first | exact (fun z => z.1 ⟨c159, c171, c184⟩) | exact (fun z => c200 z.2)⟩⟩ (by simp only []; omega)
                            · rw [lg_cmp_eq] at c184
                              have hSd : ¬ mSkip fpx fpy lv x y d := by first | exact (fun h => absurd (h.1.symm.trans c159) (by decide)) | exact (fun h => c171 h.2.1) | exact (fun h => c184 h.2.2)
                              refine lv_aload_n hx hb dX5_isInside_187 rfl (lv_at hl 0 rfl) ?_
                              refine lv_iload hx hb dX5_isInside_188 (lv_at hl 7 rfl) ?_
                              refine lv_iload hx hb dX5_isInside_190 (lv_at hl 8 rfl) ?_
                              refine lv_iload hx hb dX5_isInside_192 (lv_at hl 9 rfl) ?_
                              refine lv_lload_n hx hb dX5_isInside_194 rfl (lv_at hl 2 rfl) ?_
                              refine lv_lload hx hb dX5_isInside_195 (lv_at hl 3 rfl) ?_
                              refine kpVi (q0 := 0) (ci := 5) (As := [.int (nI a), .int (nI b), .int (nI d), .long x, .long y]) (rest := []) (WC := [(om, .inr (5, [.int (nI cd), .int (nI ns), .ref apx, .ref apy, .ref act, .int (nI nb), .ref asd, .ref amv, .ref asl, .ref apl, .ref asw, .int (nI nw), .ref aor, .int (nI nc), .ref aon, .ref atw, .long mx, .long my, .ref aup, .ref alw, .int (nI nm), .long up, .long lo, .long rx, .long ry])), (apx, .inl (cJ, 256, .inr (.inl fpx))), (apy, .inl (cJ, 256, .inr (.inl fpy)))]) (tyC := [(cJ, .long), (cI, .int), (cZ, .boolean)]) ⟨hx, hb, hml, hown, hts⟩ (tX5_isInTriangle l dC dI cJ cI cZ om cd ns apx apy act nb asd amv asl apl asw nw aor nc aon atw aup alw nm mx my up lo rx ry fpx fpy a b d x y (by omega) (by omega) (by omega)) (cwV 5 hts gX5_isInside_X5_isInTriangle rfl rfl rfl (by decide +kernel) ⟨Nat.le_of_ble_eq_true rfl, Nat.le_of_ble_eq_true rfl⟩) (kPick (isC := [0, 1, 2]) hP rfl) (hK.sub [0, 1, 2] rfl) rfl rfl rfl rfl hl.1 (Nat.le_of_ble_eq_true rfl) dX5_isInside_197 ⟨Nat.le_of_ble_eq_true rfl, Nat.le_of_ble_eq_true rfl⟩ ?_
                              refine lv_if_eq (tgt := 205) hx hb dX5_isInside_200 (by decide) (fun c200 => ?_) (fun c200 => ?_)
                              · replace c200 := bI_0 c200; replace c200 := pB_not c200
                                refine lv_iinc (v := (nI (d + 1))) (lv' := [(11, .int (nI (d + 1))), (0, .ref om), (1, .int (nI s_)), (2, .long x), (4, .long y), (6, .int (bI lv)), (7, .int (nI (16 * s_))), (8, .int (nI (16 * s_ + ct s_))), (9, .int (nI a)), (10, .int (nI b))]) hx hb dX5_isInside_205 hl (k := 9) rfl (show (nI d) + Int32.ofInt 1 = nI (d + 1) from nI_add d 1) (by decide) rfl (fun ls hl => ?_)
                                refine lv_goto (tgt := 150) hx hb dX5_isInside_208 (by decide) ?_
                                exact ih150 (d + 1) _ _ _ ⟨rfl, rfl, lv_sub hl [1, 2, 3, 4, 5, 6, 7, 8, 9, 0] rfl, ⟨by omega, by omega, fun j h1 h2 => by rcases Nat.lt_or_ge j d with h | h; exact hC j h1 h; rw [show j = d by omega]; first | exact (fun z => z.1 ⟨c159, c171, c184⟩) | exact (fun z => c200 z.2)⟩⟩ (by simp only []; omega)
                              · replace c200 := bI_n c200; replace c200 := pB_iff.mp c200
                                refine lv_iconst (v := (nI 1)) hx hb dX5_isInside_203 (by decide) ?_
                                exact kRz hx hb hr hlocks dX5_isInside_204 (kp1 ⟨a, hfa, c25, hSa, b, hab, c69, hSb, Or.inr ⟨d, hbd, c154, hSd, c200⟩⟩)
                    · exact ⟨rfl, rfl, lv_sub hl [1, 2, 3, 4, 5, 6, 7, 8, 9, 0] rfl, ⟨by omega, by omega, fun j h1 h2 => absurd h2 (by omega)⟩⟩
                  · replace c139 := bI_n c139; replace c139 := pB_iff.mp c139
                    refine lv_iconst (v := (nI 1)) hx hb dX5_isInside_142 (by decide) ?_
                    exact kRz hx hb hr hlocks dX5_isInside_143 (kp1 ⟨a, hfa, c25, hSa, b, hab, c69, hSb, Or.inl c139⟩)
                · simp only [ne_eq, Decidable.not_not, lg_cmp_eq] at c86
                  refine lv_aload_n hx hb dX5_isInside_89 rfl (lv_at hl 0 rfl) ?_
                  refine va_get (D := (dC, dI)) (ci := 5) (v := .ref apy) (C := RX5) (T := TX5) (N := 25) hx hb hts hi5 hown hK hP 0 rfl rfl 3 (by decide) f13 (fun _ h9 => h9) rfl dX5_isInside_90 ?_
                  refine lv_iload hx hb dX5_isInside_93 (lv_at hl 8 rfl) ?_
                  refine va_lald hx hb hK hP 2 0 rfl rfl (vp_in_nI (show b < 256 by omega) (by omega)) dX5_isInside_95 ?_
                  rw [show (nI b).toNatClampNeg = b from nI_clamp (show b < 2 ^ 31 by omega)]
                  refine lv_lload hx hb dX5_isInside_96 (lv_at hl 3 rfl) ?_
                  refine W.lcmp hx hb dX5_isInside_98 ?_
                  refine lv_if_ne (tgt := 105) hx hb dX5_isInside_99 (by decide) (fun c99 => ?_) (fun c99 => ?_)
                  · simp only [ne_eq, lg_cmp_eq] at c99
                    have hSb : ¬ mSkip fpx fpy lv x y b := by first | exact (fun h => absurd (h.1.symm.trans c74) (by decide)) | exact (fun h => c86 h.2.1) | exact (fun h => c99 h.2.2)
                    refine lv_aload_n hx hb dX5_isInside_105 rfl (lv_at hl 0 rfl) ?_
                    refine va_get (D := (dC, dI)) (ci := 5) (v := .ref apx) (C := RX5) (T := TX5) (N := 25) hx hb hts hi5 hown hK hP 0 rfl rfl 2 (by decide) f7 (fun _ h9 => h9) rfl dX5_isInside_106 ?_
                    refine lv_iload hx hb dX5_isInside_109 (lv_at hl 7 rfl) ?_
                    refine va_lald hx hb hK hP 1 0 rfl rfl (vp_in_nI (show a < 256 by omega) (by omega)) dX5_isInside_111 ?_
                    rw [show (nI a).toNatClampNeg = a from nI_clamp (show a < 2 ^ 31 by omega)]
                    refine lv_aload_n hx hb dX5_isInside_112 rfl (lv_at hl 0 rfl) ?_
                    refine va_get (D := (dC, dI)) (ci := 5) (v := .ref apy) (C := RX5) (T := TX5) (N := 25) hx hb hts hi5 hown hK hP 0 rfl rfl 3 (by decide) f13 (fun _ h9 => h9) rfl dX5_isInside_113 ?_
                    refine lv_iload hx hb dX5_isInside_116 (lv_at hl 7 rfl) ?_
                    refine va_lald hx hb hK hP 2 0 rfl rfl (vp_in_nI (show a < 256 by omega) (by omega)) dX5_isInside_118 ?_
                    rw [show (nI a).toNatClampNeg = a from nI_clamp (show a < 2 ^ 31 by omega)]
                    refine lv_aload_n hx hb dX5_isInside_119 rfl (lv_at hl 0 rfl) ?_
                    refine va_get (D := (dC, dI)) (ci := 5) (v := .ref apx) (C := RX5) (T := TX5) (N := 25) hx hb hts hi5 hown hK hP 0 rfl rfl 2 (by decide) f7 (fun _ h9 => h9) rfl dX5_isInside_120 ?_
                    refine lv_iload hx hb dX5_isInside_123 (lv_at hl 8 rfl) ?_
                    refine va_lald hx hb hK hP 1 0 rfl rfl (vp_in_nI (show b < 256 by omega) (by omega)) dX5_isInside_125 ?_
                    rw [show (nI b).toNatClampNeg = b from nI_clamp (show b < 2 ^ 31 by omega)]
                    refine lv_aload_n hx hb dX5_isInside_126 rfl (lv_at hl 0 rfl) ?_
                    refine va_get (D := (dC, dI)) (ci := 5) (v := .ref apy) (C := RX5) (T := TX5) (N := 25) hx hb hts hi5 hown hK hP 0 rfl rfl 3 (by decide) f13 (fun _ h9 => h9) rfl dX5_isInside_127 ?_
                    refine lv_iload hx hb dX5_isInside_130 (lv_at hl 8 rfl) ?_
                    refine va_lald hx hb hK hP 2 0 rfl rfl (vp_in_nI (show b < 256 by omega) (by omega)) dX5_isInside_132 ?_
                    rw [show (nI b).toNatClampNeg = b from nI_clamp (show b < 2 ^ 31 by omega)]
                    refine lv_lload_n hx hb dX5_isInside_133 rfl (lv_at hl 2 rfl) ?_
                    refine lv_lload hx hb dX5_isInside_134 (lv_at hl 3 rfl) ?_
                    refine kpSi (As := [.long (fpx a), .long (fpy a), .long (fpx b), .long (fpy b), .long x, .long y]) (rest := []) (WC := []) (tyC := []) ⟨hx, hb, hml, hown, hts⟩ (tX5_isOn l dC dI (fpx a) (fpy a) (fpx b) (fpy b) x y) (cwS 6 hts gX5_isInside_X5_isOn rfl rfl rfl (by decide +kernel) ⟨Nat.le_of_ble_eq_true rfl, Nat.le_of_ble_eq_true rfl⟩) (kPick (isC := []) hP rfl) (hK.sub [] rfl) rfl rfl hl.1 (Nat.le_of_ble_eq_true rfl) dX5_isInside_136 ⟨Nat.le_of_ble_eq_true rfl, Nat.le_of_ble_eq_true rfl⟩ ?_
                    refine lv_if_eq (tgt := 144) hx hb dX5_isInside_139 (by decide) (fun c139 => ?_) (fun c139 => ?_)
                    · replace c139 := bI_0 c139; replace c139 := pB_not c139
                      refine lv_iload hx hb dX5_isInside_144 (lv_at hl 8 rfl) ?_
                      refine lv_iconst (v := (nI 1)) hx hb dX5_isInside_146 (by decide) ?_
                      refine lv_iadd hx hb dX5_isInside_147 ?_
                      rw [show (nI b) + (nI 1) = (nI (b + 1)) from nI_add b 1]
                      refine lv_istore (lv' := [(11, .int (nI (b + 1))), (0, .ref om), (1, .int (nI s_)), (2, .long x), (4, .long y), (6, .int (bI lv)), (7, .int (nI (16 * s_))), (8, .int (nI (16 * s_ + ct s_))), (9, .int (nI a)), (10, .int (nI b))]) hx hb dX5_isInside_148 hl (by decide) rfl (fun ls hl => ?_)
                      refine kLoop (σ := Nat) (fun xz H locs ls => match xz with | d => (H = s.heap) ∧ (locs = []) ∧ (lv_has ls 12 [(0, .ref om), (1, .int (nI s_)), (2, .long x), (4, .long y), (6, .int (bI lv)), (7, .int (nI (16 * s_))), (8, .int (nI (16 * s_ + ct s_))), (9, .int (nI a)), (10, .int (nI b)), (11, .int (nI d))]) ∧ (b < d ∧ d ≤ 16 * s_ + ct s_ ∧ ∀ j, b < j → j < d → ¬ (¬ mSkip fpx fpy lv x y j ∧ mTri fpx fpy a b j x y))) (fun xz => match xz with | d => 16 * s_ + ct s_ - d) ?_ (b + 1) ?_
                      · rintro d H locs ls hI ih150
                        obtain ⟨hHe, hLe, hl, hi150_⟩ := hI
                        subst hHe
                        subst hLe
                        obtain ⟨hbd, hdt, hC⟩ := hi150_
                        refine lv_iload hx hb dX5_isInside_150 (lv_at hl 9 rfl) ?_
                        refine lv_iload hx hb dX5_isInside_152 (lv_at hl 6 rfl) ?_
                        refine lv_icmp_ge (tgt := 211) hx hb dX5_isInside_154 (by decide) (fun c154 => ?_) (fun c154 => ?_)
                        · rw [nI_leI (by omega) (by omega)] at c154
                          refine lv_iinc (v := (nI (b + 1))) (lv' := [(10, .int (nI (b + 1))), (0, .ref om), (1, .int (nI s_)), (2, .long x), (4, .long y), (6, .int (bI lv)), (7, .int (nI (16 * s_))), (8, .int (nI (16 * s_ + ct s_))), (9, .int (nI a)), (11, .int (nI d))]) hx hb dX5_isInside_211 hl (k := 8) rfl (show (nI b) + Int32.ofInt 1 = nI (b + 1) from nI_add b 1) (by decide) rfl (fun ls hl => ?_)
                          refine lv_goto (tgt := 65) hx hb dX5_isInside_214 (by decide) ?_
                          exact ih65 (b + 1) _ _ _ ⟨rfl, rfl, lv_sub hl [1, 2, 3, 4, 5, 6, 7, 8, 0] rfl, ⟨by omega, by omega, fun j h1 h2 => by rcases Nat.lt_or_ge j b with h | h; exact hB j h1 h; rw [show j = b by omega]; first | exact (fun z => z.1 ⟨c74, c86, c99⟩) | exact (fun z => z.2.elim c139 (fun ⟨w, w1, w2, w3⟩ => hC w w1 (by omega) w3))⟩⟩ (by simp only []; omega)
                        · rw [nI_leI (by omega) (by omega), Nat.not_le] at c154
                          refine lv_iload hx hb dX5_isInside_157 (lv_at hl 4 rfl) ?_
                          refine lv_if_eq (tgt := 187) hx hb dX5_isInside_159 (by decide) (fun c159 => ?_) (fun c159 => ?_)
                          · replace c159 := bI_0 c159
                            have hSd : ¬ mSkip fpx fpy lv x y d := by first | exact (fun h => absurd (h.1.symm.trans c159) (by decide)) | exact (fun h => c171 h.2.1) | exact (fun h => c184 h.2.2)
                            refine lv_aload_n hx hb dX5_isInside_187 rfl (lv_at hl 0 rfl) ?_
                            refine lv_iload hx hb dX5_isInside_188 (lv_at hl 7 rfl) ?_
                            refine lv_iload hx hb dX5_isInside_190 (lv_at hl 8 rfl) ?_
                            refine lv_iload hx hb dX5_isInside_192 (lv_at hl 9 rfl) ?_
                            refine lv_lload_n hx hb dX5_isInside_194 rfl (lv_at hl 2 rfl) ?_
                            refine lv_lload hx hb dX5_isInside_195 (lv_at hl 3 rfl) ?_
                            refine kpVi (q0 := 0) (ci := 5) (As := [.int (nI a), .int (nI b), .int (nI d), .long x, .long y]) (rest := []) (WC := [(om, .inr (5, [.int (nI cd), .int (nI ns), .ref apx, .ref apy, .ref act, .int (nI nb), .ref asd, .ref amv, .ref asl, .ref apl, .ref asw, .int (nI nw), .ref aor, .int (nI nc), .ref aon, .ref atw, .long mx, .long my, .ref aup, .ref alw, .int (nI nm), .long up, .long lo, .long rx, .long ry])), (apx, .inl (cJ, 256, .inr (.inl fpx))), (apy, .inl (cJ, 256, .inr (.inl fpy)))]) (tyC := [(cJ, .long), (cI, .int), (cZ, .boolean)]) ⟨hx, hb, hml, hown, hts⟩ (tX5_isInTriangle l dC dI cJ cI cZ om cd ns apx apy act nb asd amv asl apl asw nw aor nc aon atw aup alw nm mx my up lo rx ry fpx fpy a b d x y (by omega) (by omega) (by omega)) (cwV 5 hts gX5_isInside_X5_isInTriangle rfl rfl rfl (by decide +kernel) ⟨Nat.le_of_ble_eq_true rfl, Nat.le_of_ble_eq_true rfl⟩) (kPick (isC := [0, 1, 2]) hP rfl) (hK.sub [0, 1, 2] rfl) rfl rfl rfl rfl hl.1 (Nat.le_of_ble_eq_true rfl) dX5_isInside_197 ⟨Nat.le_of_ble_eq_true rfl, Nat.le_of_ble_eq_true rfl⟩ ?_
                            refine lv_if_eq (tgt := 205) hx hb dX5_isInside_200 (by decide) (fun c200 => ?_) (fun c200 => ?_)
                            · replace c200 := bI_0 c200; replace c200 := pB_not c200
                              refine lv_iinc (v := (nI (d + 1))) (lv' := [(11, .int (nI (d + 1))), (0, .ref om), (1, .int (nI s_)), (2, .long x), (4, .long y), (6, .int (bI lv)), (7, .int (nI (16 * s_))), (8, .int (nI (16 * s_ + ct s_))), (9, .int (nI a)), (10, .int (nI b))]) hx hb dX5_isInside_205 hl (k := 9) rfl (show (nI d) + Int32.ofInt 1 = nI (d + 1) from nI_add d 1) (by decide) rfl (fun ls hl => ?_)
                              refine lv_goto (tgt := 150) hx hb dX5_isInside_208 (by decide) ?_
                              exact ih150 (d + 1) _ _ _ ⟨rfl, rfl, lv_sub hl [1, 2, 3, 4, 5, 6, 7, 8, 9, 0] rfl, ⟨by omega, by omega, fun j h1 h2 => by rcases Nat.lt_or_ge j d with h | h; exact hC j h1 h; rw [show j = d by omega]; first | exact (fun z => z.1 ⟨c159, c171, c184⟩) | exact (fun z => c200 z.2)⟩⟩ (by simp only []; omega)
                            · replace c200 := bI_n c200; replace c200 := pB_iff.mp c200
                              refine lv_iconst (v := (nI 1)) hx hb dX5_isInside_203 (by decide) ?_
                              exact kRz hx hb hr hlocks dX5_isInside_204 (kp1 ⟨a, hfa, c25, hSa, b, hab, c69, hSb, Or.inr ⟨d, hbd, c154, hSd, c200⟩⟩)
                          · replace c159 := bI_n c159
                            refine lv_aload_n hx hb dX5_isInside_162 rfl (lv_at hl 0 rfl) ?_
                            refine va_get (D := (dC, dI)) (ci := 5) (v := .ref apx) (C := RX5) (T := TX5) (N := 25) hx hb hts hi5 hown hK hP 0 rfl rfl 2 (by decide) f7 (fun _ h9 => h9) rfl dX5_isInside_163 ?_
                            refine lv_iload hx hb dX5_isInside_166 (lv_at hl 9 rfl) ?_
                            refine va_lald hx hb hK hP 1 0 rfl rfl (vp_in_nI (show d < 256 by omega) (by omega)) dX5_isInside_168 ?_
                            rw [show (nI d).toNatClampNeg = d from nI_clamp (show d < 2 ^ 31 by omega)]
                            refine lv_lload_n hx hb dX5_isInside_169 rfl (lv_at hl 2 rfl) ?_
                            refine W.lcmp hx hb dX5_isInside_170 ?_
                            refine lv_if_ne (tgt := 187) hx hb dX5_isInside_171 (by decide) (fun c171 => ?_) (fun c171 => ?_)
                            · simp only [ne_eq, lg_cmp_eq] at c171
                              have hSd : ¬ mSkip fpx fpy lv x y d := by first | exact (fun h => absurd (h.1.symm.trans c159) (by decide)) | exact (fun h => c171 h.2.1) | exact (fun h => c184 h.2.2)
                              refine lv_aload_n hx hb dX5_isInside_187 rfl (lv_at hl 0 rfl) ?_
                              refine lv_iload hx hb dX5_isInside_188 (lv_at hl 7 rfl) ?_
                              refine lv_iload hx hb dX5_isInside_190 (lv_at hl 8 rfl) ?_
                              refine lv_iload hx hb dX5_isInside_192 (lv_at hl 9 rfl) ?_
                              refine lv_lload_n hx hb dX5_isInside_194 rfl (lv_at hl 2 rfl) ?_
                              refine lv_lload hx hb dX5_isInside_195 (lv_at hl 3 rfl) ?_
                              refine kpVi (q0 := 0) (ci := 5) (As := [.int (nI a), .int (nI b), .int (nI d), .long x, .long y]) (rest := []) (WC := [(om, .inr (5, [.int (nI cd), .int (nI ns), .ref apx, .ref apy, .ref act, .int (nI nb), .ref asd, .ref amv, .ref asl, .ref apl, .ref asw, .int (nI nw), .ref aor, .int (nI nc), .ref aon, .ref atw, .long mx, .long my, .ref aup, .ref alw, .int (nI nm), .long up, .long lo, .long rx, .long ry])), (apx, .inl (cJ, 256, .inr (.inl fpx))), (apy, .inl (cJ, 256, .inr (.inl fpy)))]) (tyC := [(cJ, .long), (cI, .int), (cZ, .boolean)]) ⟨hx, hb, hml, hown, hts⟩ (tX5_isInTriangle l dC dI cJ cI cZ om cd ns apx apy act nb asd amv asl apl asw nw aor nc aon atw aup alw nm mx my up lo rx ry fpx fpy a b d x y (by omega) (by omega) (by omega)) (cwV 5 hts gX5_isInside_X5_isInTriangle rfl rfl rfl (by decide +kernel) ⟨Nat.le_of_ble_eq_true rfl, Nat.le_of_ble_eq_true rfl⟩) (kPick (isC := [0, 1, 2]) hP rfl) (hK.sub [0, 1, 2] rfl) rfl rfl rfl rfl hl.1 (Nat.le_of_ble_eq_true rfl) dX5_isInside_197 ⟨Nat.le_of_ble_eq_true rfl, Nat.le_of_ble_eq_true rfl⟩ ?_
                              refine lv_if_eq (tgt := 205) hx hb dX5_isInside_200 (by decide) (fun c200 => ?_) (fun c200 => ?_)
                              · replace c200 := bI_0 c200; replace c200 := pB_not c200
                                refine lv_iinc (v := (nI (d + 1))) (lv' := [(11, .int (nI (d + 1))), (0, .ref om), (1, .int (nI s_)), (2, .long x), (4, .long y), (6, .int (bI lv)), (7, .int (nI (16 * s_))), (8, .int (nI (16 * s_ + ct s_))), (9, .int (nI a)), (10, .int (nI b))]) hx hb dX5_isInside_205 hl (k := 9) rfl (show (nI d) + Int32.ofInt 1 = nI (d + 1) from nI_add d 1) (by decide) rfl (fun ls hl => ?_)
                                refine lv_goto (tgt := 150) hx hb dX5_isInside_208 (by decide) ?_
                                exact ih150 (d + 1) _ _ _ ⟨rfl, rfl, lv_sub hl [1, 2, 3, 4, 5, 6, 7, 8, 9, 0] rfl, ⟨by omega, by omega, fun j h1 h2 => by rcases Nat.lt_or_ge j d with h | h; exact hC j h1 h; rw [show j = d by omega]; first | exact (fun z => z.1 ⟨c159, c171, c184⟩) | exact (fun z => c200 z.2)⟩⟩ (by simp only []; omega)
                              · replace c200 := bI_n c200; replace c200 := pB_iff.mp c200
                                refine lv_iconst (v := (nI 1)) hx hb dX5_isInside_203 (by decide) ?_
                                exact kRz hx hb hr hlocks dX5_isInside_204 (kp1 ⟨a, hfa, c25, hSa, b, hab, c69, hSb, Or.inr ⟨d, hbd, c154, hSd, c200⟩⟩)
                            · simp only [ne_eq, Decidable.not_not, lg_cmp_eq] at c171
                              refine lv_aload_n hx hb dX5_isInside_174 rfl (lv_at hl 0 rfl) ?_
                              refine va_get (D := (dC, dI)) (ci := 5) (v := .ref apy) (C := RX5) (T := TX5) (N := 25) hx hb hts hi5 hown hK hP 0 rfl rfl 3 (by decide) f13 (fun _ h9 => h9) rfl dX5_isInside_175 ?_
                              refine lv_iload hx hb dX5_isInside_178 (lv_at hl 9 rfl) ?_
                              refine va_lald hx hb hK hP 2 0 rfl rfl (vp_in_nI (show d < 256 by omega) (by omega)) dX5_isInside_180 ?_
                              rw [show (nI d).toNatClampNeg = d from nI_clamp (show d < 2 ^ 31 by omega)]
                              refine lv_lload hx hb dX5_isInside_181 (lv_at hl 3 rfl) ?_
                              refine W.lcmp hx hb dX5_isInside_183 ?_
                              refine lv_if_eq (tgt := 205) hx hb dX5_isInside_184 (by decide) (fun c184 => ?_) (fun c184 => ?_)
                              · rw [lg_cmp_eq] at c184
                                refine lv_iinc (v := (nI (d + 1))) (lv' := [(11, .int (nI (d + 1))), (0, .ref om), (1, .int (nI s_)), (2, .long x), (4, .long y), (6, .int (bI lv)), (7, .int (nI (16 * s_))), (8, .int (nI (16 * s_ + ct s_))), (9, .int (nI a)), (10, .int (nI b))]) hx hb dX5_isInside_205 hl (k := 9) rfl (show (nI d) + Int32.ofInt 1 = nI (d + 1) from nI_add d 1) (by decide) rfl (fun ls hl => ?_)
                                refine lv_goto (tgt := 150) hx hb dX5_isInside_208 (by decide) ?_
                                exact ih150 (d + 1) _ _ _ ⟨rfl, rfl, lv_sub hl [1, 2, 3, 4, 5, 6, 7, 8, 9, 0] rfl, ⟨by omega, by omega, fun j h1 h2 => by rcases Nat.lt_or_ge j d with h | h; exact hC j h1 h; rw [show j = d by omega]; first | exact (fun z => z.1 ⟨c159, c171, c184⟩) | exact (fun z => c200 z.2)⟩⟩ (by simp only []; omega)
                              · rw [lg_cmp_eq] at c184
                                have hSd : ¬ mSkip fpx fpy lv x y d := by first | exact (fun h => absurd (h.1.symm.trans c159) (by decide)) | exact (fun h => c171 h.2.1) | exact (fun h => c184 h.2.2)
                                refine lv_aload_n hx hb dX5_isInside_187 rfl (lv_at hl 0 rfl) ?_
                                refine lv_iload hx hb dX5_isInside_188 (lv_at hl 7 rfl) ?_
                                refine lv_iload hx hb dX5_isInside_190 (lv_at hl 8 rfl) ?_
                                refine lv_iload hx hb dX5_isInside_192 (lv_at hl 9 rfl) ?_
                                refine lv_lload_n hx hb dX5_isInside_194 rfl (lv_at hl 2 rfl) ?_
                                refine lv_lload hx hb dX5_isInside_195 (lv_at hl 3 rfl) ?_
                                refine kpVi (q0 := 0) (ci := 5) (As := [.int (nI a), .int (nI b), .int (nI d), .long x, .long y]) (rest := []) (WC := [(om, .inr (5, [.int (nI cd), .int (nI ns), .ref apx, .ref apy, .ref act, .int (nI nb), .ref asd, .ref amv, .ref asl, .ref apl, .ref asw, .int (nI nw), .ref aor, .int (nI nc), .ref aon, .ref atw, .long mx, .long my, .ref aup, .ref alw, .int (nI nm), .long up, .long lo, .long rx, .long ry])), (apx, .inl (cJ, 256, .inr (.inl fpx))), (apy, .inl (cJ, 256, .inr (.inl fpy)))]) (tyC := [(cJ, .long), (cI, .int), (cZ, .boolean)]) ⟨hx, hb, hml, hown, hts⟩ (tX5_isInTriangle l dC dI cJ cI cZ om cd ns apx apy act nb asd amv asl apl asw nw aor nc aon atw aup alw nm mx my up lo rx ry fpx fpy a b d x y (by omega) (by omega) (by omega)) (cwV 5 hts gX5_isInside_X5_isInTriangle rfl rfl rfl (by decide +kernel) ⟨Nat.le_of_ble_eq_true rfl, Nat.le_of_ble_eq_true rfl⟩) (kPick (isC := [0, 1, 2]) hP rfl) (hK.sub [0, 1, 2] rfl) rfl rfl rfl rfl hl.1 (Nat.le_of_ble_eq_true rfl) dX5_isInside_197 ⟨Nat.le_of_ble_eq_true rfl, Nat.le_of_ble_eq_true rfl⟩ ?_
                                refine lv_if_eq (tgt := 205) hx hb dX5_isInside_200 (by decide) (fun c200 => ?_) (fun c200 => ?_)
                                · replace c200 := bI_0 c200; replace c200 := pB_not c200
                                  refine lv_iinc (v := (nI (d + 1))) (lv' := [(11, .int (nI (d + 1))), (0, .ref om), (1, .int (nI s_)), (2, .long x), (4, .long y), (6, .int (bI lv)), (7, .int (nI (16 * s_))), (8, .int (nI (16 * s_ + ct s_))), (9, .int (nI a)), (10, .int (nI b))]) hx hb dX5_isInside_205 hl (k := 9) rfl (show (nI d) + Int32.ofInt 1 = nI (d + 1) from nI_add d 1) (by decide) rfl (fun ls hl => ?_)
                                  refine lv_goto (tgt := 150) hx hb dX5_isInside_208 (by decide) ?_
                                  exact ih150 (d + 1) _ _ _ ⟨rfl, rfl, lv_sub hl [1, 2, 3, 4, 5, 6, 7, 8, 9, 0] rfl, ⟨by omega, by omega, fun j h1 h2 => by rcases Nat.lt_or_ge j d with h | h; exact hC j h1 h; rw [show j = d by omega]; first | exact (fun z => z.1 ⟨c159, c171, c184⟩) | exact (fun z => c200 z.2)⟩⟩ (by simp only []; omega)
                                · replace c200 := bI_n c200; replace c200 := pB_iff.mp c200
                                  refine lv_iconst (v := (nI 1)) hx hb dX5_isInside_203 (by decide) ?_
                                  exact kRz hx hb hr hlocks dX5_isInside_204 (kp1 ⟨a, hfa, c25, hSa, b, hab, c69, hSb, Or.inr ⟨d, hbd, c154, hSd, c200⟩⟩)
                      · exact ⟨rfl, rfl, lv_sub hl [1, 2, 3, 4, 5, 6, 7, 8, 9, 0] rfl, ⟨by omega, by omega, fun j h1 h2 => absurd h2 (by omega)⟩⟩
                    · replace c139 := bI_n c139; replace c139 := pB_iff.mp c139
                      refine lv_iconst (v := (nI 1)) hx hb dX5_isInside_142 (by decide) ?_
                      exact kRz hx hb hr hlocks dX5_isInside_143 (kp1 ⟨a, hfa, c25, hSa, b, hab, c69, hSb, Or.inl c139⟩)
                  · simp only [ne_eq, Decidable.not_not, lg_cmp_eq] at c99
                    refine lv_goto (tgt := 211) hx hb dX5_isInside_102 (by decide) ?_
                    refine lv_iinc (v := (nI (b + 1))) (lv' := [(10, .int (nI (b + 1))), (0, .ref om), (1, .int (nI s_)), (2, .long x), (4, .long y), (6, .int (bI lv)), (7, .int (nI (16 * s_))), (8, .int (nI (16 * s_ + ct s_))), (9, .int (nI a))]) hx hb dX5_isInside_211 hl (k := 8) rfl (show (nI b) + Int32.ofInt 1 = nI (b + 1) from nI_add b 1) (by decide) rfl (fun ls hl => ?_)
                    refine lv_goto (tgt := 65) hx hb dX5_isInside_214 (by decide) ?_
                    exact ih65 (b + 1) _ _ _ ⟨rfl, rfl, lv_sub hl [1, 2, 3, 4, 5, 6, 7, 8, 0] rfl, ⟨by omega, by omega, fun j h1 h2 => by rcases Nat.lt_or_ge j b with h | h; exact hB j h1 h; rw [show j = b by omega]; first | exact (fun z => z.1 ⟨c74, c86, c99⟩) | exact (fun z => z.2.elim c139 (fun ⟨w, w1, w2, w3⟩ => hC w w1 (by omega) w3))⟩⟩ (by simp only []; omega)
          · exact ⟨rfl, rfl, lv_sub hl [1, 2, 3, 4, 5, 6, 7, 8, 0] rfl, ⟨Nat.le_refl _, by omega, fun j h1 h2 => absurd h2 (by omega)⟩⟩
        · simp only [ne_eq, Decidable.not_not, lg_cmp_eq] at c42
          refine lv_aload_n hx hb dX5_isInside_45 rfl (lv_at hl 0 rfl) ?_
          refine va_get (D := (dC, dI)) (ci := 5) (v := .ref apy) (C := RX5) (T := TX5) (N := 25) hx hb hts hi5 hown hK hP 0 rfl rfl 3 (by decide) f13 (fun _ h9 => h9) rfl dX5_isInside_46 ?_
          refine lv_iload hx hb dX5_isInside_49 (lv_at hl 7 rfl) ?_
          refine va_lald hx hb hK hP 2 0 rfl rfl (vp_in_nI (show a < 256 by omega) (by omega)) dX5_isInside_51 ?_
          rw [show (nI a).toNatClampNeg = a from nI_clamp (show a < 2 ^ 31 by omega)]
          refine lv_lload hx hb dX5_isInside_52 (lv_at hl 3 rfl) ?_
          refine W.lcmp hx hb dX5_isInside_54 ?_
          refine lv_if_ne (tgt := 61) hx hb dX5_isInside_55 (by decide) (fun c55 => ?_) (fun c55 => ?_)
          · simp only [ne_eq, lg_cmp_eq] at c55
            have hSa : ¬ mSkip fpx fpy lv x y a := by first | exact (fun h => absurd (h.1.symm.trans c30) (by decide)) | exact (fun h => c42 h.2.1) | exact (fun h => c55 h.2.2)
            refine lv_iload hx hb dX5_isInside_61 (lv_at hl 7 rfl) ?_
            refine lv_istore (lv' := [(10, .int (nI a)), (0, .ref om), (1, .int (nI s_)), (2, .long x), (4, .long y), (6, .int (bI lv)), (7, .int (nI (16 * s_))), (8, .int (nI (16 * s_ + ct s_))), (9, .int (nI a))]) hx hb dX5_isInside_63 hl (by decide) rfl (fun ls hl => ?_)
            refine kLoop (σ := Nat) (fun xz H locs ls => match xz with | b => (H = s.heap) ∧ (locs = []) ∧ (lv_has ls 12 [(0, .ref om), (1, .int (nI s_)), (2, .long x), (4, .long y), (6, .int (bI lv)), (7, .int (nI (16 * s_))), (8, .int (nI (16 * s_ + ct s_))), (9, .int (nI a)), (10, .int (nI b))]) ∧ (a ≤ b ∧ b ≤ 16 * s_ + ct s_ ∧ ∀ j, a ≤ j → j < b → ¬ mAB fpx fpy lv x y (16 * s_ + ct s_) a j)) (fun xz => match xz with | b => 16 * s_ + ct s_ - b) ?_ (a) ?_
            · rintro b H locs ls hI ih65
              obtain ⟨hHe, hLe, hl, hi65_⟩ := hI
              subst hHe
              subst hLe
              obtain ⟨hab, hbt, hB⟩ := hi65_
              refine lv_iload hx hb dX5_isInside_65 (lv_at hl 8 rfl) ?_
              refine lv_iload hx hb dX5_isInside_67 (lv_at hl 6 rfl) ?_
              refine lv_icmp_ge (tgt := 217) hx hb dX5_isInside_69 (by decide) (fun c69 => ?_) (fun c69 => ?_)
              · rw [nI_leI (by omega) (by omega)] at c69
                refine lv_iinc (v := (nI (a + 1))) (lv' := [(9, .int (nI (a + 1))), (0, .ref om), (1, .int (nI s_)), (2, .long x), (4, .long y), (6, .int (bI lv)), (7, .int (nI (16 * s_))), (8, .int (nI (16 * s_ + ct s_))), (10, .int (nI b))]) hx hb dX5_isInside_217 hl (k := 7) rfl (show (nI a) + Int32.ofInt 1 = nI (a + 1) from nI_add a 1) (by decide) rfl (fun ls hl => ?_)
                refine lv_goto (tgt := 21) hx hb dX5_isInside_220 (by decide) ?_
                exact ih21 (a + 1) _ _ _ ⟨rfl, rfl, lv_sub hl [1, 2, 3, 4, 5, 6, 7, 0] rfl, ⟨by omega, by omega, fun j h1 h2 => by rcases Nat.lt_or_ge j a with h | h; exact hA j h1 h; rw [show j = a by omega]; first | exact (fun z => z.1 ⟨c30, c42, c55⟩) | (rintro ⟨-, w, w1, w2, w3⟩; exact hB w w1 (by omega) w3)⟩⟩ (by simp only []; omega)
              · rw [nI_leI (by omega) (by omega), Nat.not_le] at c69
                refine lv_iload hx hb dX5_isInside_72 (lv_at hl 4 rfl) ?_
                refine lv_if_eq (tgt := 105) hx hb dX5_isInside_74 (by decide) (fun c74 => ?_) (fun c74 => ?_)
                · replace c74 := bI_0 c74
                  have hSb : ¬ mSkip fpx fpy lv x y b := by first | exact (fun h => absurd (h.1.symm.trans c74) (by decide)) | exact (fun h => c86 h.2.1) | exact (fun h => c99 h.2.2)
                  refine lv_aload_n hx hb dX5_isInside_105 rfl (lv_at hl 0 rfl) ?_
                  refine va_get (D := (dC, dI)) (ci := 5) (v := .ref apx) (C := RX5) (T := TX5) (N := 25) hx hb hts hi5 hown hK hP 0 rfl rfl 2 (by decide) f7 (fun _ h9 => h9) rfl dX5_isInside_106 ?_
                  refine lv_iload hx hb dX5_isInside_109 (lv_at hl 7 rfl) ?_
                  refine va_lald hx hb hK hP 1 0 rfl rfl (vp_in_nI (show a < 256 by omega) (by omega)) dX5_isInside_111 ?_
                  rw [show (nI a).toNatClampNeg = a from nI_clamp (show a < 2 ^ 31 by omega)]
                  refine lv_aload_n hx hb dX5_isInside_112 rfl (lv_at hl 0 rfl) ?_
                  refine va_get (D := (dC, dI)) (ci := 5) (v := .ref apy) (C := RX5) (T := TX5) (N := 25) hx hb hts hi5 hown hK hP 0 rfl rfl 3 (by decide) f13 (fun _ h9 => h9) rfl dX5_isInside_113 ?_
                  refine lv_iload hx hb dX5_isInside_116 (lv_at hl 7 rfl) ?_
                  refine va_lald hx hb hK hP 2 0 rfl rfl (vp_in_nI (show a < 256 by omega) (by omega)) dX5_isInside_118 ?_
                  rw [show (nI a).toNatClampNeg = a from nI_clamp (show a < 2 ^ 31 by omega)]
                  refine lv_aload_n hx hb dX5_isInside_119 rfl (lv_at hl 0 rfl) ?_
                  refine va_get (D := (dC, dI)) (ci := 5) (v := .ref apx) (C := RX5) (T := TX5) (N := 25) hx hb hts hi5 hown hK hP 0 rfl rfl 2 (by decide) f7 (fun _ h9 => h9) rfl dX5_isInside_120 ?_
                  refine lv_iload hx hb dX5_isInside_123 (lv_at hl 8 rfl) ?_
                  refine va_lald hx hb hK hP 1 0 rfl rfl (vp_in_nI (show b < 256 by omega) (by omega)) dX5_isInside_125 ?_
                  rw [show (nI b).toNatClampNeg = b from nI_clamp (show b < 2 ^ 31 by omega)]
                  refine lv_aload_n hx hb dX5_isInside_126 rfl (lv_at hl 0 rfl) ?_
                  refine va_get (D := (dC, dI)) (ci := 5) (v := .ref apy) (C := RX5) (T := TX5) (N := 25) hx hb hts hi5 hown hK hP 0 rfl rfl 3 (by decide) f13 (fun _ h9 => h9) rfl dX5_isInside_127 ?_
                  refine lv_iload hx hb dX5_isInside_130 (lv_at hl 8 rfl) ?_
                  refine va_lald hx hb hK hP 2 0 rfl rfl (vp_in_nI (show b < 256 by omega) (by omega)) dX5_isInside_132 ?_
                  rw [show (nI b).toNatClampNeg = b from nI_clamp (show b < 2 ^ 31 by omega)]
                  refine lv_lload_n hx hb dX5_isInside_133 rfl (lv_at hl 2 rfl) ?_
                  refine lv_lload hx hb dX5_isInside_134 (lv_at hl 3 rfl) ?_
                  refine kpSi (As := [.long (fpx a), .long (fpy a), .long (fpx b), .long (fpy b), .long x, .long y]) (rest := []) (WC := []) (tyC := []) ⟨hx, hb, hml, hown, hts⟩ (tX5_isOn l dC dI (fpx a) (fpy a) (fpx b) (fpy b) x y) (cwS 6 hts gX5_isInside_X5_isOn rfl rfl rfl (by decide +kernel) ⟨Nat.le_of_ble_eq_true rfl, Nat.le_of_ble_eq_true rfl⟩) (kPick (isC := []) hP rfl) (hK.sub [] rfl) rfl rfl hl.1 (Nat.le_of_ble_eq_true rfl) dX5_isInside_136 ⟨Nat.le_of_ble_eq_true rfl, Nat.le_of_ble_eq_true rfl⟩ ?_
                  refine lv_if_eq (tgt := 144) hx hb dX5_isInside_139 (by decide) (fun c139 => ?_) (fun c139 => ?_)
                  · replace c139 := bI_0 c139; replace c139 := pB_not c139
                    refine lv_iload hx hb dX5_isInside_144 (lv_at hl 8 rfl) ?_
                    refine lv_iconst (v := (nI 1)) hx hb dX5_isInside_146 (by decide) ?_
                    refine lv_iadd hx hb dX5_isInside_147 ?_
                    rw [show (nI b) + (nI 1) = (nI (b + 1)) from nI_add b 1]
                    refine lv_istore (lv' := [(11, .int (nI (b + 1))), (0, .ref om), (1, .int (nI s_)), (2, .long x), (4, .long y), (6, .int (bI lv)), (7, .int (nI (16 * s_))), (8, .int (nI (16 * s_ + ct s_))), (9, .int (nI a)), (10, .int (nI b))]) hx hb dX5_isInside_148 hl (by decide) rfl (fun ls hl => ?_)
                    refine kLoop (σ := Nat) (fun xz H locs ls => match xz with | d => (H = s.heap) ∧ (locs = []) ∧ (lv_has ls 12 [(0, .ref om), (1, .int (nI s_)), (2, .long x), (4, .long y), (6, .int (bI lv)), (7, .int (nI (16 * s_))), (8, .int (nI (16 * s_ + ct s_))), (9, .int (nI a)), (10, .int (nI b)), (11, .int (nI d))]) ∧ (b < d ∧ d ≤ 16 * s_ + ct s_ ∧ ∀ j, b < j → j < d → ¬ (¬ mSkip fpx fpy lv x y j ∧ mTri fpx fpy a b j x y))) (fun xz => match xz with | d => 16 * s_ + ct s_ - d) ?_ (b + 1) ?_
                    · rintro d H locs ls hI ih150
                      obtain ⟨hHe, hLe, hl, hi150_⟩ := hI
                      subst hHe
                      subst hLe
                      obtain ⟨hbd, hdt, hC⟩ := hi150_
                      refine lv_iload hx hb dX5_isInside_150 (lv_at hl 9 rfl) ?_
                      refine lv_iload hx hb dX5_isInside_152 (lv_at hl 6 rfl) ?_
                      refine lv_icmp_ge (tgt := 211) hx hb dX5_isInside_154 (by decide) (fun c154 => ?_) (fun c154 => ?_)
                      · rw [nI_leI (by omega) (by omega)] at c154
                        refine lv_iinc (v := (nI (b + 1))) (lv' := [(10, .int (nI (b + 1))), (0, .ref om), (1, .int (nI s_)), (2, .long x), (4, .long y), (6, .int (bI lv)), (7, .int (nI (16 * s_))), (8, .int (nI (16 * s_ + ct s_))), (9, .int (nI a)), (11, .int (nI d))]) hx hb dX5_isInside_211 hl (k := 8) rfl (show (nI b) + Int32.ofInt 1 = nI (b + 1) from nI_add b 1) (by decide) rfl (fun ls hl => ?_)
                        refine lv_goto (tgt := 65) hx hb dX5_isInside_214 (by decide) ?_
                        exact ih65 (b + 1) _ _ _ ⟨rfl, rfl, lv_sub hl [1, 2, 3, 4, 5, 6, 7, 8, 0] rfl, ⟨by omega, by omega, fun j h1 h2 => by rcases Nat.lt_or_ge j b with h | h; exact hB j h1 h; rw [show j = b by omega]; first | exact (fun z => z.1 ⟨c74, c86, c99⟩) | exact (fun z => z.2.elim c139 (fun ⟨w, w1, w2, w3⟩ => hC w w1 (by omega) w3))⟩⟩ (by simp only []; omega)
                      · rw [nI_leI (by omega) (by omega), Nat.not_le] at c154
                        refine lv_iload hx hb dX5_isInside_157 (lv_at hl 4 rfl) ?_
                        refine lv_if_eq (tgt := 187) hx hb dX5_isInside_159 (by decide) (fun c159 => ?_) (fun c159 => ?_)
                        · replace c159 := bI_0 c159
                          have hSd : ¬ mSkip fpx fpy lv x y d := by first | exact (fun h => absurd (h.1.symm.trans c159) (by decide)) | exact (fun h => c171 h.2.1) | exact (fun h => c184 h.2.2)
                          refine lv_aload_n hx hb dX5_isInside_187 rfl (lv_at hl 0 rfl) ?_
                          refine lv_iload hx hb dX5_isInside_188 (lv_at hl 7 rfl) ?_
                          refine lv_iload hx hb dX5_isInside_190 (lv_at hl 8 rfl) ?_
                          refine lv_iload hx hb dX5_isInside_192 (lv_at hl 9 rfl) ?_
                          refine lv_lload_n hx hb dX5_isInside_194 rfl (lv_at hl 2 rfl) ?_
                          refine lv_lload hx hb dX5_isInside_195 (lv_at hl 3 rfl) ?_
                          refine kpVi (q0 := 0) (ci := 5) (As := [.int (nI a), .int (nI b), .int (nI d), .long x, .long y]) (rest := []) (WC := [(om, .inr (5, [.int (nI cd), .int (nI ns), .ref apx, .ref apy, .ref act, .int (nI nb), .ref asd, .ref amv, .ref asl, .ref apl, .ref asw, .int (nI nw), .ref aor, .int (nI nc), .ref aon, .ref atw, .long mx, .long my, .ref aup, .ref alw, .int (nI nm), .long up, .long lo, .long rx, .long ry])), (apx, .inl (cJ, 256, .inr (.inl fpx))), (apy, .inl (cJ, 256, .inr (.inl fpy)))]) (tyC := [(cJ, .long), (cI, .int), (cZ, .boolean)]) ⟨hx, hb, hml, hown, hts⟩ (tX5_isInTriangle l dC dI cJ cI cZ om cd ns apx apy act nb asd amv asl apl asw nw aor nc aon atw aup alw nm mx my up lo rx ry fpx fpy a b d x y (by omega) (by omega) (by omega)) (cwV 5 hts gX5_isInside_X5_isInTriangle rfl rfl rfl (by decide +kernel) ⟨Nat.le_of_ble_eq_true rfl, Nat.le_of_ble_eq_true rfl⟩) (kPick (isC := [0, 1, 2]) hP rfl) (hK.sub [0, 1, 2] rfl) rfl rfl rfl rfl hl.1 (Nat.le_of_ble_eq_true rfl) dX5_isInside_197 ⟨Nat.le_of_ble_eq_true rfl, Nat.le_of_ble_eq_true rfl⟩ ?_
                          refine lv_if_eq (tgt := 205) hx hb dX5_isInside_200 (by decide) (fun c200 => ?_) (fun c200 => ?_)
                          · replace c200 := bI_0 c200; replace c200 := pB_not c200
                            refine lv_iinc (v := (nI (d + 1))) (lv' := [(11, .int (nI (d + 1))), (0, .ref om), (1, .int (nI s_)), (2, .long x), (4, .long y), (6, .int (bI lv)), (7, .int (nI (16 * s_))), (8, .int (nI (16 * s_ + ct s_))), (9, .int (nI a)), (10, .int (nI b))]) hx hb dX5_isInside_205 hl (k := 9) rfl (show (nI d) + Int32.ofInt 1 = nI (d + 1) from nI_add d 1) (by decide) rfl (fun ls hl => ?_)
                            refine lv_goto (tgt := 150) hx hb dX5_isInside_208 (by decide) ?_
                            exact ih150 (d + 1) _ _ _ ⟨rfl, rfl, lv_sub hl [1, 2, 3, 4, 5, 6, 7, 8, 9, 0] rfl, ⟨by omega, by omega, fun j h1 h2 => by rcases Nat.lt_or_ge j d with h | h; exact hC j h1 h; rw [show j = d by omega]; first | exact (fun z => z.1 ⟨c159, c171, c184⟩) | exact (fun z => c200 z.2)⟩⟩ (by simp only []; omega)
                          · replace c200 := bI_n c200; replace c200 := pB_iff.mp c200
                            refine lv_iconst (v := (nI 1)) hx hb dX5_isInside_203 (by decide) ?_
                            exact kRz hx hb hr hlocks dX5_isInside_204 (kp1 ⟨a, hfa, c25, hSa, b, hab, c69, hSb, Or.inr ⟨d, hbd, c154, hSd, c200⟩⟩)
                        · replace c159 := bI_n c159
                          refine lv_aload_n hx hb dX5_isInside_162 rfl (lv_at hl 0 rfl) ?_
                          refine va_get (D := (dC, dI)) (ci := 5) (v := .ref apx) (C := RX5) (T := TX5) (N := 25) hx hb hts hi5 hown hK hP 0 rfl rfl 2 (by decide) f7 (fun _ h9 => h9) rfl dX5_isInside_163 ?_
                          refine lv_iload hx hb dX5_isInside_166 (lv_at hl 9 rfl) ?_
                          refine va_lald hx hb hK hP 1 0 rfl rfl (vp_in_nI (show d < 256 by omega) (by omega)) dX5_isInside_168 ?_
                          rw [show (nI d).toNatClampNeg = d from nI_clamp (show d < 2 ^ 31 by omega)]
                          refine lv_lload_n hx hb dX5_isInside_169 rfl (lv_at hl 2 rfl) ?_
                          refine W.lcmp hx hb dX5_isInside_170 ?_
                          refine lv_if_ne (tgt := 187) hx hb dX5_isInside_171 (by decide) (fun c171 => ?_) (fun c171 => ?_)
                          · simp only [ne_eq, lg_cmp_eq] at c171
                            have hSd : ¬ mSkip fpx fpy lv x y d := by first | exact (fun h => absurd (h.1.symm.trans c159) (by decide)) | exact (fun h => c171 h.2.1) | exact (fun h => c184 h.2.2)
                            refine lv_aload_n hx hb dX5_isInside_187 rfl (lv_at hl 0 rfl) ?_
                            refine lv_iload hx hb dX5_isInside_188 (lv_at hl 7 rfl) ?_
                            refine lv_iload hx hb dX5_isInside_190 (lv_at hl 8 rfl) ?_
                            refine lv_iload hx hb dX5_isInside_192 (lv_at hl 9 rfl) ?_
                            refine lv_lload_n hx hb dX5_isInside_194 rfl (lv_at hl 2 rfl) ?_
                            refine lv_lload hx hb dX5_isInside_195 (lv_at hl 3 rfl) ?_
                            refine kpVi (q0 := 0) (ci := 5) (As := [.int (nI a), .int (nI b), .int (nI d), .long x, .long y]) (rest := []) (WC := [(om, .inr (5, [.int (nI cd), .int (nI ns), .ref apx, .ref apy, .ref act, .int (nI nb), .ref asd, .ref amv, .ref asl, .ref apl, .ref asw, .int (nI nw), .ref aor, .int (nI nc), .ref aon, .ref atw, .long mx, .long my, .ref aup, .ref alw, .int (nI nm), .long up, .long lo, .long rx, .long ry])), (apx, .inl (cJ, 256, .inr (.inl fpx))), (apy, .inl (cJ, 256, .inr (.inl fpy)))]) (tyC := [(cJ, .long), (cI, .int), (cZ, .boolean)]) ⟨hx, hb, hml, hown, hts⟩ (tX5_isInTriangle l dC dI cJ cI cZ om cd ns apx apy act nb asd amv asl apl asw nw aor nc aon atw aup alw nm mx my up lo rx ry fpx fpy a b d x y (by omega) (by omega) (by omega)) (cwV 5 hts gX5_isInside_X5_isInTriangle rfl rfl rfl (by decide +kernel) ⟨Nat.le_of_ble_eq_true rfl, Nat.le_of_ble_eq_true rfl⟩) (kPick (isC := [0, 1, 2]) hP rfl) (hK.sub [0, 1, 2] rfl) rfl rfl rfl rfl hl.1 (Nat.le_of_ble_eq_true rfl) dX5_isInside_197 ⟨Nat.le_of_ble_eq_true rfl, Nat.le_of_ble_eq_true rfl⟩ ?_
                            refine lv_if_eq (tgt := 205) hx hb dX5_isInside_200 (by decide) (fun c200 => ?_) (fun c200 => ?_)
                            · replace c200 := bI_0 c200; replace c200 := pB_not c200
                              refine lv_iinc (v := (nI (d + 1))) (lv' := [(11, .int (nI (d + 1))), (0, .ref om), (1, .int (nI s_)), (2, .long x), (4, .long y), (6, .int (bI lv)), (7, .int (nI (16 * s_))), (8, .int (nI (16 * s_ + ct s_))), (9, .int (nI a)), (10, .int (nI b))]) hx hb dX5_isInside_205 hl (k := 9) rfl (show (nI d) + Int32.ofInt 1 = nI (d + 1) from nI_add d 1) (by decide) rfl (fun ls hl => ?_)
                              refine lv_goto (tgt := 150) hx hb dX5_isInside_208 (by decide) ?_
                              exact ih150 (d + 1) _ _ _ ⟨rfl, rfl, lv_sub hl [1, 2, 3, 4, 5, 6, 7, 8, 9, 0] rfl, ⟨by omega, by omega, fun j h1 h2 => by rcases Nat.lt_or_ge j d with h | h; exact hC j h1 h; rw [show j = d by omega]; first | exact (fun z => z.1 ⟨c159, c171, c184⟩) | exact (fun z => c200 z.2)⟩⟩ (by simp only []; omega)
                            · replace c200 := bI_n c200; replace c200 := pB_iff.mp c200
                              refine lv_iconst (v := (nI 1)) hx hb dX5_isInside_203 (by decide) ?_
                              exact kRz hx hb hr hlocks dX5_isInside_204 (kp1 ⟨a, hfa, c25, hSa, b, hab, c69, hSb, Or.inr ⟨d, hbd, c154, hSd, c200⟩⟩)
                          · simp only [ne_eq, Decidable.not_not, lg_cmp_eq] at c171
                            refine lv_aload_n hx hb dX5_isInside_174 rfl (lv_at hl 0 rfl) ?_
                            refine va_get (D := (dC, dI)) (ci := 5) (v := .ref apy) (C := RX5) (T := TX5) (N := 25) hx hb hts hi5 hown hK hP 0 rfl rfl 3 (by decide) f13 (fun _ h9 => h9) rfl dX5_isInside_175 ?_
                            refine lv_iload hx hb dX5_isInside_178 (lv_at hl 9 rfl) ?_
                            refine va_lald hx hb hK hP 2 0 rfl rfl (vp_in_nI (show d < 256 by omega) (by omega)) dX5_isInside_180 ?_
                            rw [show (nI d).toNatClampNeg = d from nI_clamp (show d < 2 ^ 31 by omega)]
                            refine lv_lload hx hb dX5_isInside_181 (lv_at hl 3 rfl) ?_
                            refine W.lcmp hx hb dX5_isInside_183 ?_
                            refine lv_if_eq (tgt := 205) hx hb dX5_isInside_184 (by decide) (fun c184 => ?_) (fun c184 => ?_)
                            · rw [lg_cmp_eq] at c184
                              refine lv_iinc (v := (nI (d + 1))) (lv' := [(11, .int (nI (d + 1))), (0, .ref om), (1, .int (nI s_)), (2, .long x), (4, .long y), (6, .int (bI lv)), (7, .int (nI (16 * s_))), (8, .int (nI (16 * s_ + ct s_))), (9, .int (nI a)), (10, .int (nI b))]) hx hb dX5_isInside_205 hl (k := 9) rfl (show (nI d) + Int32.ofInt 1 = nI (d + 1) from nI_add d 1) (by decide) rfl (fun ls hl => ?_)
                              refine lv_goto (tgt := 150) hx hb dX5_isInside_208 (by decide) ?_
                              exact ih150 (d + 1) _ _ _ ⟨rfl, rfl, lv_sub hl [1, 2, 3, 4, 5, 6, 7, 8, 9, 0] rfl, ⟨by omega, by omega, fun j h1 h2 => by rcases Nat.lt_or_ge j d with h | h; exact hC j h1 h; rw [show j = d by omega]; first | exact (fun z => z.1 ⟨c159, c171, c184⟩) | exact (fun z => c200 z.2)⟩⟩ (by simp only []; omega)
                            · rw [lg_cmp_eq] at c184
                              have hSd : ¬ mSkip fpx fpy lv x y d := by first | exact (fun h => absurd (h.1.symm.trans c159) (by decide)) | exact (fun h => c171 h.2.1) | exact (fun h => c184 h.2.2)
                              refine lv_aload_n hx hb dX5_isInside_187 rfl (lv_at hl 0 rfl) ?_
                              refine lv_iload hx hb dX5_isInside_188 (lv_at hl 7 rfl) ?_
                              refine lv_iload hx hb dX5_isInside_190 (lv_at hl 8 rfl) ?_
                              refine lv_iload hx hb dX5_isInside_192 (lv_at hl 9 rfl) ?_
                              refine lv_lload_n hx hb dX5_isInside_194 rfl (lv_at hl 2 rfl) ?_
                              refine lv_lload hx hb dX5_isInside_195 (lv_at hl 3 rfl) ?_
                              refine kpVi (q0 := 0) (ci := 5) (As := [.int (nI a), .int (nI b), .int (nI d), .long x, .long y]) (rest := []) (WC := [(om, .inr (5, [.int (nI cd), .int (nI ns), .ref apx, .ref apy, .ref act, .int (nI nb), .ref asd, .ref amv, .ref asl, .ref apl, .ref asw, .int (nI nw), .ref aor, .int (nI nc), .ref aon, .ref atw, .long mx, .long my, .ref aup, .ref alw, .int (nI nm), .long up, .long lo, .long rx, .long ry])), (apx, .inl (cJ, 256, .inr (.inl fpx))), (apy, .inl (cJ, 256, .inr (.inl fpy)))]) (tyC := [(cJ, .long), (cI, .int), (cZ, .boolean)]) ⟨hx, hb, hml, hown, hts⟩ (tX5_isInTriangle l dC dI cJ cI cZ om cd ns apx apy act nb asd amv asl apl asw nw aor nc aon atw aup alw nm mx my up lo rx ry fpx fpy a b d x y (by omega) (by omega) (by omega)) (cwV 5 hts gX5_isInside_X5_isInTriangle rfl rfl rfl (by decide +kernel) ⟨Nat.le_of_ble_eq_true rfl, Nat.le_of_ble_eq_true rfl⟩) (kPick (isC := [0, 1, 2]) hP rfl) (hK.sub [0, 1, 2] rfl) rfl rfl rfl rfl hl.1 (Nat.le_of_ble_eq_true rfl) dX5_isInside_197 ⟨Nat.le_of_ble_eq_true rfl, Nat.le_of_ble_eq_true rfl⟩ ?_
                              refine lv_if_eq (tgt := 205) hx hb dX5_isInside_200 (by decide) (fun c200 => ?_) (fun c200 => ?_)
                              · replace c200 := bI_0 c200; replace c200 := pB_not c200
                                refine lv_iinc (v := (nI (d + 1))) (lv' := [(11, .int (nI (d + 1))), (0, .ref om), (1, .int (nI s_)), (2, .long x), (4, .long y), (6, .int (bI lv)), (7, .int (nI (16 * s_))), (8, .int (nI (16 * s_ + ct s_))), (9, .int (nI a)), (10, .int (nI b))]) hx hb dX5_isInside_205 hl (k := 9) rfl (show (nI d) + Int32.ofInt 1 = nI (d + 1) from nI_add d 1) (by decide) rfl (fun ls hl => ?_)
                                refine lv_goto (tgt := 150) hx hb dX5_isInside_208 (by decide) ?_
                                exact ih150 (d + 1) _ _ _ ⟨rfl, rfl, lv_sub hl [1, 2, 3, 4, 5, 6, 7, 8, 9, 0] rfl, ⟨by omega, by omega, fun j h1 h2 => by rcases Nat.lt_or_ge j d with h | h; exact hC j h1 h; rw [show j = d by omega]; first | exact (fun z => z.1 ⟨c159, c171, c184⟩) | exact (fun z => c200 z.2)⟩⟩ (by simp only []; omega)
                              · replace c200 := bI_n c200; replace c200 := pB_iff.mp c200
                                refine lv_iconst (v := (nI 1)) hx hb dX5_isInside_203 (by decide) ?_
                                exact kRz hx hb hr hlocks dX5_isInside_204 (kp1 ⟨a, hfa, c25, hSa, b, hab, c69, hSb, Or.inr ⟨d, hbd, c154, hSd, c200⟩⟩)
                    · exact ⟨rfl, rfl, lv_sub hl [1, 2, 3, 4, 5, 6, 7, 8, 9, 0] rfl, ⟨by omega, by omega, fun j h1 h2 => absurd h2 (by omega)⟩⟩
                  · replace c139 := bI_n c139; replace c139 := pB_iff.mp c139
                    refine lv_iconst (v := (nI 1)) hx hb dX5_isInside_142 (by decide) ?_
                    exact kRz hx hb hr hlocks dX5_isInside_143 (kp1 ⟨a, hfa, c25, hSa, b, hab, c69, hSb, Or.inl c139⟩)
                · replace c74 := bI_n c74
                  refine lv_aload_n hx hb dX5_isInside_77 rfl (lv_at hl 0 rfl) ?_
                  refine va_get (D := (dC, dI)) (ci := 5) (v := .ref apx) (C := RX5) (T := TX5) (N := 25) hx hb hts hi5 hown hK hP 0 rfl rfl 2 (by decide) f7 (fun _ h9 => h9) rfl dX5_isInside_78 ?_
                  refine lv_iload hx hb dX5_isInside_81 (lv_at hl 8 rfl) ?_
                  refine va_lald hx hb hK hP 1 0 rfl rfl (vp_in_nI (show b < 256 by omega) (by omega)) dX5_isInside_83 ?_
                  rw [show (nI b).toNatClampNeg = b from nI_clamp (show b < 2 ^ 31 by omega)]
                  refine lv_lload_n hx hb dX5_isInside_84 rfl (lv_at hl 2 rfl) ?_
                  refine W.lcmp hx hb dX5_isInside_85 ?_
                  refine lv_if_ne (tgt := 105) hx hb dX5_isInside_86 (by decide) (fun c86 => ?_) (fun c86 => ?_)
                  · simp only [ne_eq, lg_cmp_eq] at c86
                    have hSb : ¬ mSkip fpx fpy lv x y b := by first | exact (fun h => absurd (h.1.symm.trans c74) (by decide)) | exact (fun h => c86 h.2.1) | exact (fun h => c99 h.2.2)
                    refine lv_aload_n hx hb dX5_isInside_105 rfl (lv_at hl 0 rfl) ?_
                    refine va_get (D := (dC, dI)) (ci := 5) (v := .ref apx) (C := RX5) (T := TX5) (N := 25) hx hb hts hi5 hown hK hP 0 rfl rfl 2 (by decide) f7 (fun _ h9 => h9) rfl dX5_isInside_106 ?_
                    refine lv_iload hx hb dX5_isInside_109 (lv_at hl 7 rfl) ?_
                    refine va_lald hx hb hK hP 1 0 rfl rfl (vp_in_nI (show a < 256 by omega) (by omega)) dX5_isInside_111 ?_
                    rw [show (nI a).toNatClampNeg = a from nI_clamp (show a < 2 ^ 31 by omega)]
                    refine lv_aload_n hx hb dX5_isInside_112 rfl (lv_at hl 0 rfl) ?_
                    refine va_get (D := (dC, dI)) (ci := 5) (v := .ref apy) (C := RX5) (T := TX5) (N := 25) hx hb hts hi5 hown hK hP 0 rfl rfl 3 (by decide) f13 (fun _ h9 => h9) rfl dX5_isInside_113 ?_
                    refine lv_iload hx hb dX5_isInside_116 (lv_at hl 7 rfl) ?_
                    refine va_lald hx hb hK hP 2 0 rfl rfl (vp_in_nI (show a < 256 by omega) (by omega)) dX5_isInside_118 ?_
                    rw [show (nI a).toNatClampNeg = a from nI_clamp (show a < 2 ^ 31 by omega)]
                    refine lv_aload_n hx hb dX5_isInside_119 rfl (lv_at hl 0 rfl) ?_
                    refine va_get (D := (dC, dI)) (ci := 5) (v := .ref apx) (C := RX5) (T := TX5) (N := 25) hx hb hts hi5 hown hK hP 0 rfl rfl 2 (by decide) f7 (fun _ h9 => h9) rfl dX5_isInside_120 ?_
                    refine lv_iload hx hb dX5_isInside_123 (lv_at hl 8 rfl) ?_
                    refine va_lald hx hb hK hP 1 0 rfl rfl (vp_in_nI (show b < 256 by omega) (by omega)) dX5_isInside_125 ?_
                    rw [show (nI b).toNatClampNeg = b from nI_clamp (show b < 2 ^ 31 by omega)]
                    refine lv_aload_n hx hb dX5_isInside_126 rfl (lv_at hl 0 rfl) ?_
                    refine va_get (D := (dC, dI)) (ci := 5) (v := .ref apy) (C := RX5) (T := TX5) (N := 25) hx hb hts hi5 hown hK hP 0 rfl rfl 3 (by decide) f13 (fun _ h9 => h9) rfl dX5_isInside_127 ?_
                    refine lv_iload hx hb dX5_isInside_130 (lv_at hl 8 rfl) ?_
                    refine va_lald hx hb hK hP 2 0 rfl rfl (vp_in_nI (show b < 256 by omega) (by omega)) dX5_isInside_132 ?_
                    rw [show (nI b).toNatClampNeg = b from nI_clamp (show b < 2 ^ 31 by omega)]
                    refine lv_lload_n hx hb dX5_isInside_133 rfl (lv_at hl 2 rfl) ?_
                    refine lv_lload hx hb dX5_isInside_134 (lv_at hl 3 rfl) ?_
                    refine kpSi (As := [.long (fpx a), .long (fpy a), .long (fpx b), .long (fpy b), .long x, .long y]) (rest := []) (WC := []) (tyC := []) ⟨hx, hb, hml, hown, hts⟩ (tX5_isOn l dC dI (fpx a) (fpy a) (fpx b) (fpy b) x y) (cwS 6 hts gX5_isInside_X5_isOn rfl rfl rfl (by decide +kernel) ⟨Nat.le_of_ble_eq_true rfl, Nat.le_of_ble_eq_true rfl⟩) (kPick (isC := []) hP rfl) (hK.sub [] rfl) rfl rfl hl.1 (Nat.le_of_ble_eq_true rfl) dX5_isInside_136 ⟨Nat.le_of_ble_eq_true rfl, Nat.le_of_ble_eq_true rfl⟩ ?_
                    refine lv_if_eq (tgt := 144) hx hb dX5_isInside_139 (by decide) (fun c139 => ?_) (fun c139 => ?_)
                    · replace c139 := bI_0 c139; replace c139 := pB_not c139
                      refine lv_iload hx hb dX5_isInside_144 (lv_at hl 8 rfl) ?_
                      refine lv_iconst (v := (nI 1)) hx hb dX5_isInside_146 (by decide) ?_
                      refine lv_iadd hx hb dX5_isInside_147 ?_
                      rw [show (nI b) + (nI 1) = (nI (b + 1)) from nI_add b 1]
                      refine lv_istore (lv' := [(11, .int (nI (b + 1))), (0, .ref om), (1, .int (nI s_)), (2, .long x), (4, .long y), (6, .int (bI lv)), (7, .int (nI (16 * s_))), (8, .int (nI (16 * s_ + ct s_))), (9, .int (nI a)), (10, .int (nI b))]) hx hb dX5_isInside_148 hl (by decide) rfl (fun ls hl => ?_)
                      refine kLoop (σ := Nat) (fun xz H locs ls => match xz with | d => (H = s.heap) ∧ (locs = []) ∧ (lv_has ls 12 [(0, .ref om), (1, .int (nI s_)), (2, .long x), (4, .long y), (6, .int (bI lv)), (7, .int (nI (16 * s_))), (8, .int (nI (16 * s_ + ct s_))), (9, .int (nI a)), (10, .int (nI b)), (11, .int (nI d))]) ∧ (b < d ∧ d ≤ 16 * s_ + ct s_ ∧ ∀ j, b < j → j < d → ¬ (¬ mSkip fpx fpy lv x y j ∧ mTri fpx fpy a b j x y))) (fun xz => match xz with | d => 16 * s_ + ct s_ - d) ?_ (b + 1) ?_
                      · rintro d H locs ls hI ih150
                        obtain ⟨hHe, hLe, hl, hi150_⟩ := hI
                        subst hHe
                        subst hLe
                        obtain ⟨hbd, hdt, hC⟩ := hi150_
                        refine lv_iload hx hb dX5_isInside_150 (lv_at hl 9 rfl) ?_
                        refine lv_iload hx hb dX5_isInside_152 (lv_at hl 6 rfl) ?_
                        refine lv_icmp_ge (tgt := 211) hx hb dX5_isInside_154 (by decide) (fun c154 => ?_) (fun c154 => ?_)
                        · rw [nI_leI (by omega) (by omega)] at c154
                          refine lv_iinc (v := (nI (b + 1))) (lv' := [(10, .int (nI (b + 1))), (0, .ref om), (1, .int (nI s_)), (2, .long x), (4, .long y), (6, .int (bI lv)), (7, .int (nI (16 * s_))), (8, .int (nI (16 * s_ + ct s_))), (9, .int (nI a)), (11, .int (nI d))]) hx hb dX5_isInside_211 hl (k := 8) rfl (show (nI b) + Int32.ofInt 1 = nI (b + 1) from nI_add b 1) (by decide) rfl (fun ls hl => ?_)
                          refine lv_goto (tgt := 65) hx hb dX5_isInside_214 (by decide) ?_
                          exact ih65 (b + 1) _ _ _ ⟨rfl, rfl, lv_sub hl [1, 2, 3, 4, 5, 6, 7, 8, 0] rfl, ⟨by omega, by omega, fun j h1 h2 => by rcases Nat.lt_or_ge j b with h | h; exact hB j h1 h; rw [show j = b by omega]; first | exact (fun z => z.1 ⟨c74, c86, c99⟩) | exact (fun z => z.2.elim c139 (fun ⟨w, w1, w2, w3⟩ => hC w w1 (by omega) w3))⟩⟩ (by simp only []; omega)
                        · rw [nI_leI (by omega) (by omega), Nat.not_le] at c154
                          refine lv_iload hx hb dX5_isInside_157 (lv_at hl 4 rfl) ?_
                          refine lv_if_eq (tgt := 187) hx hb dX5_isInside_159 (by decide) (fun c159 => ?_) (fun c159 => ?_)
                          · replace c159 := bI_0 c159
                            have hSd : ¬ mSkip fpx fpy lv x y d := by first | exact (fun h => absurd (h.1.symm.trans c159) (by decide)) | exact (fun h => c171 h.2.1) | exact (fun h => c184 h.2.2)
                            refine lv_aload_n hx hb dX5_isInside_187 rfl (lv_at hl 0 rfl) ?_
                            refine lv_iload hx hb dX5_isInside_188 (lv_at hl 7 rfl) ?_
                            refine lv_iload hx hb dX5_isInside_190 (lv_at hl 8 rfl) ?_
                            refine lv_iload hx hb dX5_isInside_192 (lv_at hl 9 rfl) ?_
                            refine lv_lload_n hx hb dX5_isInside_194 rfl (lv_at hl 2 rfl) ?_
                            refine lv_lload hx hb dX5_isInside_195 (lv_at hl 3 rfl) ?_
                            refine kpVi (q0 := 0) (ci := 5) (As := [.int (nI a), .int (nI b), .int (nI d), .long x, .long y]) (rest := []) (WC := [(om, .inr (5, [.int (nI cd), .int (nI ns), .ref apx, .ref apy, .ref act, .int (nI nb), .ref asd, .ref amv, .ref asl, .ref apl, .ref asw, .int (nI nw), .ref aor, .int (nI nc), .ref aon, .ref atw, .long mx, .long my, .ref aup, .ref alw, .int (nI nm), .long up, .long lo, .long rx, .long ry])), (apx, .inl (cJ, 256, .inr (.inl fpx))), (apy, .inl (cJ, 256, .inr (.inl fpy)))]) (tyC := [(cJ, .long), (cI, .int), (cZ, .boolean)]) ⟨hx, hb, hml, hown, hts⟩ (tX5_isInTriangle l dC dI cJ cI cZ om cd ns apx apy act nb asd amv asl apl asw nw aor nc aon atw aup alw nm mx my up lo rx ry fpx fpy a b d x y (by omega) (by omega) (by omega)) (cwV 5 hts gX5_isInside_X5_isInTriangle rfl rfl rfl (by decide +kernel) ⟨Nat.le_of_ble_eq_true rfl, Nat.le_of_ble_eq_true rfl⟩) (kPick (isC := [0, 1, 2]) hP rfl) (hK.sub [0, 1, 2] rfl) rfl rfl rfl rfl hl.1 (Nat.le_of_ble_eq_true rfl) dX5_isInside_197 ⟨Nat.le_of_ble_eq_true rfl, Nat.le_of_ble_eq_true rfl⟩ ?_
                            refine lv_if_eq (tgt := 205) hx hb dX5_isInside_200 (by decide) (fun c200 => ?_) (fun c200 => ?_)
                            · replace c200 := bI_0 c200; replace c200 := pB_not c200
                              refine lv_iinc (v := (nI (d + 1))) (lv' := [(11, .int (nI (d + 1))), (0, .ref om), (1, .int (nI s_)), (2, .long x), (4, .long y), (6, .int (bI lv)), (7, .int (nI (16 * s_))), (8, .int (nI (16 * s_ + ct s_))), (9, .int (nI a)), (10, .int (nI b))]) hx hb dX5_isInside_205 hl (k := 9) rfl (show (nI d) + Int32.ofInt 1 = nI (d + 1) from nI_add d 1) (by decide) rfl (fun ls hl => ?_)
                              refine lv_goto (tgt := 150) hx hb dX5_isInside_208 (by decide) ?_
                              exact ih150 (d + 1) _ _ _ ⟨rfl, rfl, lv_sub hl [1, 2, 3, 4, 5, 6, 7, 8, 9, 0] rfl, ⟨by omega, by omega, fun j h1 h2 => by rcases Nat.lt_or_ge j d with h | h; exact hC j h1 h; rw [show j = d by omega]; first | exact (fun z => z.1 ⟨c159, c171, c184⟩) | exact (fun z => c200 z.2)⟩⟩ (by simp only []; omega)
                            · replace c200 := bI_n c200; replace c200 := pB_iff.mp c200
                              refine lv_iconst (v := (nI 1)) hx hb dX5_isInside_203 (by decide) ?_
                              exact kRz hx hb hr hlocks dX5_isInside_204 (kp1 ⟨a, hfa, c25, hSa, b, hab, c69, hSb, Or.inr ⟨d, hbd, c154, hSd, c200⟩⟩)
                          · replace c159 := bI_n c159
                            refine lv_aload_n hx hb dX5_isInside_162 rfl (lv_at hl 0 rfl) ?_
                            refine va_get (D := (dC, dI)) (ci := 5) (v := .ref apx) (C := RX5) (T := TX5) (N := 25) hx hb hts hi5 hown hK hP 0 rfl rfl 2 (by decide) f7 (fun _ h9 => h9) rfl dX5_isInside_163 ?_
                            refine lv_iload hx hb dX5_isInside_166 (lv_at hl 9 rfl) ?_
                            refine va_lald hx hb hK hP 1 0 rfl rfl (vp_in_nI (show d < 256 by omega) (by omega)) dX5_isInside_168 ?_
                            rw [show (nI d).toNatClampNeg = d from nI_clamp (show d < 2 ^ 31 by omega)]
                            refine lv_lload_n hx hb dX5_isInside_169 rfl (lv_at hl 2 rfl) ?_
                            refine W.lcmp hx hb dX5_isInside_170 ?_
                            refine lv_if_ne (tgt := 187) hx hb dX5_isInside_171 (by decide) (fun c171 => ?_) (fun c171 => ?_)
                            · simp only [ne_eq, lg_cmp_eq] at c171
                              have hSd : ¬ mSkip fpx fpy lv x y d := by first | exact (fun h => absurd (h.1.symm.trans c159) (by decide)) | exact (fun h => c171 h.2.1) | exact (fun h => c184 h.2.2)
                              refine lv_aload_n hx hb dX5_isInside_187 rfl (lv_at hl 0 rfl) ?_
                              refine lv_iload hx hb dX5_isInside_188 (lv_at hl 7 rfl) ?_
                              refine lv_iload hx hb dX5_isInside_190 (lv_at hl 8 rfl) ?_
                              refine lv_iload hx hb dX5_isInside_192 (lv_at hl 9 rfl) ?_
                              refine lv_lload_n hx hb dX5_isInside_194 rfl (lv_at hl 2 rfl) ?_
                              refine lv_lload hx hb dX5_isInside_195 (lv_at hl 3 rfl) ?_
                              refine kpVi (q0 := 0) (ci := 5) (As := [.int (nI a), .int (nI b), .int (nI d), .long x, .long y]) (rest := []) (WC := [(om, .inr (5, [.int (nI cd), .int (nI ns), .ref apx, .ref apy, .ref act, .int (nI nb), .ref asd, .ref amv, .ref asl, .ref apl, .ref asw, .int (nI nw), .ref aor, .int (nI nc), .ref aon, .ref atw, .long mx, .long my, .ref aup, .ref alw, .int (nI nm), .long up, .long lo, .long rx, .long ry])), (apx, .inl (cJ, 256, .inr (.inl fpx))), (apy, .inl (cJ, 256, .inr (.inl fpy)))]) (tyC := [(cJ, .long), (cI, .int), (cZ, .boolean)]) ⟨hx, hb, hml, hown, hts⟩ (tX5_isInTriangle l dC dI cJ cI cZ om cd ns apx apy act nb asd amv asl apl asw nw aor nc aon atw aup alw nm mx my up lo rx ry fpx fpy a b d x y (by omega) (by omega) (by omega)) (cwV 5 hts gX5_isInside_X5_isInTriangle rfl rfl rfl (by decide +kernel) ⟨Nat.le_of_ble_eq_true rfl, Nat.le_of_ble_eq_true rfl⟩) (kPick (isC := [0, 1, 2]) hP rfl) (hK.sub [0, 1, 2] rfl) rfl rfl rfl rfl hl.1 (Nat.le_of_ble_eq_true rfl) dX5_isInside_197 ⟨Nat.le_of_ble_eq_true rfl, Nat.le_of_ble_eq_true rfl⟩ ?_
                              refine lv_if_eq (tgt := 205) hx hb dX5_isInside_200 (by decide) (fun c200 => ?_) (fun c200 => ?_)
                              · replace c200 := bI_0 c200; replace c200 := pB_not c200
                                refine lv_iinc (v := (nI (d + 1))) (lv' := [(11, .int (nI (d + 1))), (0, .ref om), (1, .int (nI s_)), (2, .long x), (4, .long y), (6, .int (bI lv)), (7, .int (nI (16 * s_))), (8, .int (nI (16 * s_ + ct s_))), (9, .int (nI a)), (10, .int (nI b))]) hx hb dX5_isInside_205 hl (k := 9) rfl (show (nI d) + Int32.ofInt 1 = nI (d + 1) from nI_add d 1) (by decide) rfl (fun ls hl => ?_)
                                refine lv_goto (tgt := 150) hx hb dX5_isInside_208 (by decide) ?_
                                exact ih150 (d + 1) _ _ _ ⟨rfl, rfl, lv_sub hl [1, 2, 3, 4, 5, 6, 7, 8, 9, 0] rfl, ⟨by omega, by omega, fun j h1 h2 => by rcases Nat.lt_or_ge j d with h | h; exact hC j h1 h; rw [show j = d by omega]; first | exact (fun z => z.1 ⟨c159, c171, c184⟩) | exact (fun z => c200 z.2)⟩⟩ (by simp only []; omega)
                              · replace c200 := bI_n c200; replace c200 := pB_iff.mp c200
                                refine lv_iconst (v := (nI 1)) hx hb dX5_isInside_203 (by decide) ?_
                                exact kRz hx hb hr hlocks dX5_isInside_204 (kp1 ⟨a, hfa, c25, hSa, b, hab, c69, hSb, Or.inr ⟨d, hbd, c154, hSd, c200⟩⟩)
                            · simp only [ne_eq, Decidable.not_not, lg_cmp_eq] at c171
                              refine lv_aload_n hx hb dX5_isInside_174 rfl (lv_at hl 0 rfl) ?_
                              refine va_get (D := (dC, dI)) (ci := 5) (v := .ref apy) (C := RX5) (T := TX5) (N := 25) hx hb hts hi5 hown hK hP 0 rfl rfl 3 (by decide) f13 (fun _ h9 => h9) rfl dX5_isInside_175 ?_
                              refine lv_iload hx hb dX5_isInside_178 (lv_at hl 9 rfl) ?_
                              refine va_lald hx hb hK hP 2 0 rfl rfl (vp_in_nI (show d < 256 by omega) (by omega)) dX5_isInside_180 ?_
                              rw [show (nI d).toNatClampNeg = d from nI_clamp (show d < 2 ^ 31 by omega)]
                              refine lv_lload hx hb dX5_isInside_181 (lv_at hl 3 rfl) ?_
                              refine W.lcmp hx hb dX5_isInside_183 ?_
                              refine lv_if_eq (tgt := 205) hx hb dX5_isInside_184 (by decide) (fun c184 => ?_) (fun c184 => ?_)
                              · rw [lg_cmp_eq] at c184
                                refine lv_iinc (v := (nI (d + 1))) (lv' := [(11, .int (nI (d + 1))), (0, .ref om), (1, .int (nI s_)), (2, .long x), (4, .long y), (6, .int (bI lv)), (7, .int (nI (16 * s_))), (8, .int (nI (16 * s_ + ct s_))), (9, .int (nI a)), (10, .int (nI b))]) hx hb dX5_isInside_205 hl (k := 9) rfl (show (nI d) + Int32.ofInt 1 = nI (d + 1) from nI_add d 1) (by decide) rfl (fun ls hl => ?_)
                                refine lv_goto (tgt := 150) hx hb dX5_isInside_208 (by decide) ?_
                                exact ih150 (d + 1) _ _ _ ⟨rfl, rfl, lv_sub hl [1, 2, 3, 4, 5, 6, 7, 8, 9, 0] rfl, ⟨by omega, by omega, fun j h1 h2 => by rcases Nat.lt_or_ge j d with h | h; exact hC j h1 h; rw [show j = d by omega]; first | exact (fun z => z.1 ⟨c159, c171, c184⟩) | exact (fun z => c200 z.2)⟩⟩ (by simp only []; omega)
                              · rw [lg_cmp_eq] at c184
                                have hSd : ¬ mSkip fpx fpy lv x y d := by first | exact (fun h => absurd (h.1.symm.trans c159) (by decide)) | exact (fun h => c171 h.2.1) | exact (fun h => c184 h.2.2)
                                refine lv_aload_n hx hb dX5_isInside_187 rfl (lv_at hl 0 rfl) ?_
                                refine lv_iload hx hb dX5_isInside_188 (lv_at hl 7 rfl) ?_
                                refine lv_iload hx hb dX5_isInside_190 (lv_at hl 8 rfl) ?_
                                refine lv_iload hx hb dX5_isInside_192 (lv_at hl 9 rfl) ?_
                                refine lv_lload_n hx hb dX5_isInside_194 rfl (lv_at hl 2 rfl) ?_
                                refine lv_lload hx hb dX5_isInside_195 (lv_at hl 3 rfl) ?_
                                refine kpVi (q0 := 0) (ci := 5) (As := [.int (nI a), .int (nI b), .int (nI d), .long x, .long y]) (rest := []) (WC := [(om, .inr (5, [.int (nI cd), .int (nI ns), .ref apx, .ref apy, .ref act, .int (nI nb), .ref asd, .ref amv, .ref asl, .ref apl, .ref asw, .int (nI nw), .ref aor, .int (nI nc), .ref aon, .ref atw, .long mx, .long my, .ref aup, .ref alw, .int (nI nm), .long up, .long lo, .long rx, .long ry])), (apx, .inl (cJ, 256, .inr (.inl fpx))), (apy, .inl (cJ, 256, .inr (.inl fpy)))]) (tyC := [(cJ, .long), (cI, .int), (cZ, .boolean)]) ⟨hx, hb, hml, hown, hts⟩ (tX5_isInTriangle l dC dI cJ cI cZ om cd ns apx apy act nb asd amv asl apl asw nw aor nc aon atw aup alw nm mx my up lo rx ry fpx fpy a b d x y (by omega) (by omega) (by omega)) (cwV 5 hts gX5_isInside_X5_isInTriangle rfl rfl rfl (by decide +kernel) ⟨Nat.le_of_ble_eq_true rfl, Nat.le_of_ble_eq_true rfl⟩) (kPick (isC := [0, 1, 2]) hP rfl) (hK.sub [0, 1, 2] rfl) rfl rfl rfl rfl hl.1 (Nat.le_of_ble_eq_true rfl) dX5_isInside_197 ⟨Nat.le_of_ble_eq_true rfl, Nat.le_of_ble_eq_true rfl⟩ ?_
                                refine lv_if_eq (tgt := 205) hx hb dX5_isInside_200 (by decide) (fun c200 => ?_) (fun c200 => ?_)
                                · replace c200 := bI_0 c200; replace c200 := pB_not c200
                                  refine lv_iinc (v := (nI (d + 1))) (lv' := [(11, .int (nI (d + 1))), (0, .ref om), (1, .int (nI s_)), (2, .long x), (4, .long y), (6, .int (bI lv)), (7, .int (nI (16 * s_))), (8, .int (nI (16 * s_ + ct s_))), (9, .int (nI a)), (10, .int (nI b))]) hx hb dX5_isInside_205 hl (k := 9) rfl (show (nI d) + Int32.ofInt 1 = nI (d + 1) from nI_add d 1) (by decide) rfl (fun ls hl => ?_)
                                  refine lv_goto (tgt := 150) hx hb dX5_isInside_208 (by decide) ?_
                                  exact ih150 (d + 1) _ _ _ ⟨rfl, rfl, lv_sub hl [1, 2, 3, 4, 5, 6, 7, 8, 9, 0] rfl, ⟨by omega, by omega, fun j h1 h2 => by rcases Nat.lt_or_ge j d with h | h; exact hC j h1 h; rw [show j = d by omega]; first | exact (fun z => z.1 ⟨c159, c171, c184⟩) | exact (fun z => c200 z.2)⟩⟩ (by simp only []; omega)
                                · replace c200 := bI_n c200; replace c200 := pB_iff.mp c200
                                  refine lv_iconst (v := (nI 1)) hx hb dX5_isInside_203 (by decide) ?_
                                  exact kRz hx hb hr hlocks dX5_isInside_204 (kp1 ⟨a, hfa, c25, hSa, b, hab, c69, hSb, Or.inr ⟨d, hbd, c154, hSd, c200⟩⟩)
                      · exact ⟨rfl, rfl, lv_sub hl [1, 2, 3, 4, 5, 6, 7, 8, 9, 0] rfl, ⟨by omega, by omega, fun j h1 h2 => absurd h2 (by omega)⟩⟩
                    · replace c139 := bI_n c139; replace c139 := pB_iff.mp c139
                      refine lv_iconst (v := (nI 1)) hx hb dX5_isInside_142 (by decide) ?_
                      exact kRz hx hb hr hlocks dX5_isInside_143 (kp1 ⟨a, hfa, c25, hSa, b, hab, c69, hSb, Or.inl c139⟩)
                  · simp only [ne_eq, Decidable.not_not, lg_cmp_eq] at c86
                    refine lv_aload_n hx hb dX5_isInside_89 rfl (lv_at hl 0 rfl) ?_
                    refine va_get (D := (dC, dI)) (ci := 5) (v := .ref apy) (C := RX5) (T := TX5) (N := 25) hx hb hts hi5 hown hK hP 0 rfl rfl 3 (by decide) f13 (fun _ h9 => h9) rfl dX5_isInside_90 ?_
                    refine lv_iload hx hb dX5_isInside_93 (lv_at hl 8 rfl) ?_
                    refine va_lald hx hb hK hP 2 0 rfl rfl (vp_in_nI (show b < 256 by omega) (by omega)) dX5_isInside_95 ?_
                    rw [show (nI b).toNatClampNeg = b from nI_clamp (show b < 2 ^ 31 by omega)]
                    refine lv_lload hx hb dX5_isInside_96 (lv_at hl 3 rfl) ?_
                    refine W.lcmp hx hb dX5_isInside_98 ?_
                    refine lv_if_ne (tgt := 105) hx hb dX5_isInside_99 (by decide) (fun c99 => ?_) (fun c99 => ?_)
                    · simp only [ne_eq, lg_cmp_eq] at c99
                      have hSb : ¬ mSkip fpx fpy lv x y b := by first | exact (fun h => absurd (h.1.symm.trans c74) (by decide)) | exact (fun h => c86 h.2.1) | exact (fun h => c99 h.2.2)
                      refine lv_aload_n hx hb dX5_isInside_105 rfl (lv_at hl 0 rfl) ?_
                      refine va_get (D := (dC, dI)) (ci := 5) (v := .ref apx) (C := RX5) (T := TX5) (N := 25) hx hb hts hi5 hown hK hP 0 rfl rfl 2 (by decide) f7 (fun _ h9 => h9) rfl dX5_isInside_106 ?_
                      refine lv_iload hx hb dX5_isInside_109 (lv_at hl 7 rfl) ?_
                      refine va_lald hx hb hK hP 1 0 rfl rfl (vp_in_nI (show a < 256 by omega) (by omega)) dX5_isInside_111 ?_
                      rw [show (nI a).toNatClampNeg = a from nI_clamp (show a < 2 ^ 31 by omega)]
                      refine lv_aload_n hx hb dX5_isInside_112 rfl (lv_at hl 0 rfl) ?_
                      refine va_get (D := (dC, dI)) (ci := 5) (v := .ref apy) (C := RX5) (T := TX5) (N := 25) hx hb hts hi5 hown hK hP 0 rfl rfl 3 (by decide) f13 (fun _ h9 => h9) rfl dX5_isInside_113 ?_
                      refine lv_iload hx hb dX5_isInside_116 (lv_at hl 7 rfl) ?_
                      refine va_lald hx hb hK hP 2 0 rfl rfl (vp_in_nI (show a < 256 by omega) (by omega)) dX5_isInside_118 ?_
                      rw [show (nI a).toNatClampNeg = a from nI_clamp (show a < 2 ^ 31 by omega)]
                      refine lv_aload_n hx hb dX5_isInside_119 rfl (lv_at hl 0 rfl) ?_
                      refine va_get (D := (dC, dI)) (ci := 5) (v := .ref apx) (C := RX5) (T := TX5) (N := 25) hx hb hts hi5 hown hK hP 0 rfl rfl 2 (by decide) f7 (fun _ h9 => h9) rfl dX5_isInside_120 ?_
                      refine lv_iload hx hb dX5_isInside_123 (lv_at hl 8 rfl) ?_
                      refine va_lald hx hb hK hP 1 0 rfl rfl (vp_in_nI (show b < 256 by omega) (by omega)) dX5_isInside_125 ?_
                      rw [show (nI b).toNatClampNeg = b from nI_clamp (show b < 2 ^ 31 by omega)]
                      refine lv_aload_n hx hb dX5_isInside_126 rfl (lv_at hl 0 rfl) ?_
                      refine va_get (D := (dC, dI)) (ci := 5) (v := .ref apy) (C := RX5) (T := TX5) (N := 25) hx hb hts hi5 hown hK hP 0 rfl rfl 3 (by decide) f13 (fun _ h9 => h9) rfl dX5_isInside_127 ?_
                      refine lv_iload hx hb dX5_isInside_130 (lv_at hl 8 rfl) ?_
                      refine va_lald hx hb hK hP 2 0 rfl rfl (vp_in_nI (show b < 256 by omega) (by omega)) dX5_isInside_132 ?_
                      rw [show (nI b).toNatClampNeg = b from nI_clamp (show b < 2 ^ 31 by omega)]
                      refine lv_lload_n hx hb dX5_isInside_133 rfl (lv_at hl 2 rfl) ?_
                      refine lv_lload hx hb dX5_isInside_134 (lv_at hl 3 rfl) ?_
                      refine kpSi (As := [.long (fpx a), .long (fpy a), .long (fpx b), .long (fpy b), .long x, .long y]) (rest := []) (WC := []) (tyC := []) ⟨hx, hb, hml, hown, hts⟩ (tX5_isOn l dC dI (fpx a) (fpy a) (fpx b) (fpy b) x y) (cwS 6 hts gX5_isInside_X5_isOn rfl rfl rfl (by decide +kernel) ⟨Nat.le_of_ble_eq_true rfl, Nat.le_of_ble_eq_true rfl⟩) (kPick (isC := []) hP rfl) (hK.sub [] rfl) rfl rfl hl.1 (Nat.le_of_ble_eq_true rfl) dX5_isInside_136 ⟨Nat.le_of_ble_eq_true rfl, Nat.le_of_ble_eq_true rfl⟩ ?_
                      refine lv_if_eq (tgt := 144) hx hb dX5_isInside_139 (by decide) (fun c139 => ?_) (fun c139 => ?_)
                      · replace c139 := bI_0 c139; replace c139 := pB_not c139
                        refine lv_iload hx hb dX5_isInside_144 (lv_at hl 8 rfl) ?_
                        refine lv_iconst (v := (nI 1)) hx hb dX5_isInside_146 (by decide) ?_
                        refine lv_iadd hx hb dX5_isInside_147 ?_
                        rw [show (nI b) + (nI 1) = (nI (b + 1)) from nI_add b 1]
                        refine lv_istore (lv' := [(11, .int (nI (b + 1))), (0, .ref om), (1, .int (nI s_)), (2, .long x), (4, .long y), (6, .int (bI lv)), (7, .int (nI (16 * s_))), (8, .int (nI (16 * s_ + ct s_))), (9, .int (nI a)), (10, .int (nI b))]) hx hb dX5_isInside_148 hl (by decide) rfl (fun ls hl => ?_)
                        refine kLoop (σ := Nat) (fun xz H locs ls => match xz with | d => (H = s.heap) ∧ (locs = []) ∧ (lv_has ls 12 [(0, .ref om), (1, .int (nI s_)), (2, .long x), (4, .long y), (6, .int (bI lv)), (7, .int (nI (16 * s_))), (8, .int (nI (16 * s_ + ct s_))), (9, .int (nI a)), (10, .int (nI b)), (11, .int (nI d))]) ∧ (b < d ∧ d ≤ 16 * s_ + ct s_ ∧ ∀ j, b < j → j < d → ¬ (¬ mSkip fpx fpy lv x y j ∧ mTri fpx fpy a b j x y))) (fun xz => match xz with | d => 16 * s_ + ct s_ - d) ?_ (b + 1) ?_
                        · rintro d H locs ls hI ih150
                          obtain ⟨hHe, hLe, hl, hi150_⟩ := hI
                          subst hHe
                          subst hLe
                          obtain ⟨hbd, hdt, hC⟩ := hi150_
                          refine lv_iload hx hb dX5_isInside_150 (lv_at hl 9 rfl) ?_
                          refine lv_iload hx hb dX5_isInside_152 (lv_at hl 6 rfl) ?_
                          refine lv_icmp_ge (tgt := 211) hx hb dX5_isInside_154 (by decide) (fun c154 => ?_) (fun c154 => ?_)
                          · rw [nI_leI (by omega) (by omega)] at c154
                            refine lv_iinc (v := (nI (b + 1))) (lv' := [(10, .int (nI (b + 1))), (0, .ref om), (1, .int (nI s_)), (2, .long x), (4, .long y), (6, .int (bI lv)), (7, .int (nI (16 * s_))), (8, .int (nI (16 * s_ + ct s_))), (9, .int (nI a)), (11, .int (nI d))]) hx hb dX5_isInside_211 hl (k := 8) rfl (show (nI b) + Int32.ofInt 1 = nI (b + 1) from nI_add b 1) (by decide) rfl (fun ls hl => ?_)
                            refine lv_goto (tgt := 65) hx hb dX5_isInside_214 (by decide) ?_
                            exact ih65 (b + 1) _ _ _ ⟨rfl, rfl, lv_sub hl [1, 2, 3, 4, 5, 6, 7, 8, 0] rfl, ⟨by omega, by omega, fun j h1 h2 => by rcases Nat.lt_or_ge j b with h | h; exact hB j h1 h; rw [show j = b by omega]; first | exact (fun z => z.1 ⟨c74, c86, c99⟩) | exact (fun z => z.2.elim c139 (fun ⟨w, w1, w2, w3⟩ => hC w w1 (by omega) w3))⟩⟩ (by simp only []; omega)
                          · rw [nI_leI (by omega) (by omega), Nat.not_le] at c154
                            refine lv_iload hx hb dX5_isInside_157 (lv_at hl 4 rfl) ?_
                            refine lv_if_eq (tgt := 187) hx hb dX5_isInside_159 (by decide) (fun c159 => ?_) (fun c159 => ?_)
                            · replace c159 := bI_0 c159
                              have hSd : ¬ mSkip fpx fpy lv x y d := by first | exact (fun h => absurd (h.1.symm.trans c159) (by decide)) | exact (fun h => c171 h.2.1) | exact (fun h => c184 h.2.2)
                              refine lv_aload_n hx hb dX5_isInside_187 rfl (lv_at hl 0 rfl) ?_
                              refine lv_iload hx hb dX5_isInside_188 (lv_at hl 7 rfl) ?_
                              refine lv_iload hx hb dX5_isInside_190 (lv_at hl 8 rfl) ?_
                              refine lv_iload hx hb dX5_isInside_192 (lv_at hl 9 rfl) ?_
                              refine lv_lload_n hx hb dX5_isInside_194 rfl (lv_at hl 2 rfl) ?_
                              refine lv_lload hx hb dX5_isInside_195 (lv_at hl 3 rfl) ?_
                              refine kpVi (q0 := 0) (ci := 5) (As := [.int (nI a), .int (nI b), .int (nI d), .long x, .long y]) (rest := []) (WC := [(om, .inr (5, [.int (nI cd), .int (nI ns), .ref apx, .ref apy, .ref act, .int (nI nb), .ref asd, .ref amv, .ref asl, .ref apl, .ref asw, .int (nI nw), .ref aor, .int (nI nc), .ref aon, .ref atw, .long mx, .long my, .ref aup, .ref alw, .int (nI nm), .long up, .long lo, .long rx, .long ry])), (apx, .inl (cJ, 256, .inr (.inl fpx))), (apy, .inl (cJ, 256, .inr (.inl fpy)))]) (tyC := [(cJ, .long), (cI, .int), (cZ, .boolean)]) ⟨hx, hb, hml, hown, hts⟩ (tX5_isInTriangle l dC dI cJ cI cZ om cd ns apx apy act nb asd amv asl apl asw nw aor nc aon atw aup alw nm mx my up lo rx ry fpx fpy a b d x y (by omega) (by omega) (by omega)) (cwV 5 hts gX5_isInside_X5_isInTriangle rfl rfl rfl (by decide +kernel) ⟨Nat.le_of_ble_eq_true rfl, Nat.le_of_ble_eq_true rfl⟩) (kPick (isC := [0, 1, 2]) hP rfl) (hK.sub [0, 1, 2] rfl) rfl rfl rfl rfl hl.1 (Nat.le_of_ble_eq_true rfl) dX5_isInside_197 ⟨Nat.le_of_ble_eq_true rfl, Nat.le_of_ble_eq_true rfl⟩ ?_
                              refine lv_if_eq (tgt := 205) hx hb dX5_isInside_200 (by decide) (fun c200 => ?_) (fun c200 => ?_)
                              · replace c200 := bI_0 c200; replace c200 := pB_not c200
                                refine lv_iinc (v := (nI (d + 1))) (lv' := [(11, .int (nI (d + 1))), (0, .ref om), (1, .int (nI s_)), (2, .long x), (4, .long y), (6, .int (bI lv)), (7, .int (nI (16 * s_))), (8, .int (nI (16 * s_ + ct s_))), (9, .int (nI a)), (10, .int (nI b))]) hx hb dX5_isInside_205 hl (k := 9) rfl (show (nI d) + Int32.ofInt 1 = nI (d + 1) from nI_add d 1) (by decide) rfl (fun ls hl => ?_)
                                refine lv_goto (tgt := 150) hx hb dX5_isInside_208 (by decide) ?_
                                exact ih150 (d + 1) _ _ _ ⟨rfl, rfl, lv_sub hl [1, 2, 3, 4, 5, 6, 7, 8, 9, 0] rfl, ⟨by omega, by omega, fun j h1 h2 => by rcases Nat.lt_or_ge j d with h | h; exact hC j h1 h; rw [show j = d by omega]; first | exact (fun z => z.1 ⟨c159, c171, c184⟩) | exact (fun z => c200 z.2)⟩⟩ (by simp only []; omega)
                              · replace c200 := bI_n c200; replace c200 := pB_iff.mp c200
                                refine lv_iconst (v := (nI 1)) hx hb dX5_isInside_203 (by decide) ?_
                                exact kRz hx hb hr hlocks dX5_isInside_204 (kp1 ⟨a, hfa, c25, hSa, b, hab, c69, hSb, Or.inr ⟨d, hbd, c154, hSd, c200⟩⟩)
                            · replace c159 := bI_n c159
                              refine lv_aload_n hx hb dX5_isInside_162 rfl (lv_at hl 0 rfl) ?_
                              refine va_get (D := (dC, dI)) (ci := 5) (v := .ref apx) (C := RX5) (T := TX5) (N := 25) hx hb hts hi5 hown hK hP 0 rfl rfl 2 (by decide) f7 (fun _ h9 => h9) rfl dX5_isInside_163 ?_
                              refine lv_iload hx hb dX5_isInside_166 (lv_at hl 9 rfl) ?_
                              refine va_lald hx hb hK hP 1 0 rfl rfl (vp_in_nI (show d < 256 by omega) (by omega)) dX5_isInside_168 ?_
                              rw [show (nI d).toNatClampNeg = d from nI_clamp (show d < 2 ^ 31 by omega)]
                              refine lv_lload_n hx hb dX5_isInside_169 rfl (lv_at hl 2 rfl) ?_
                              refine W.lcmp hx hb dX5_isInside_170 ?_
                              refine lv_if_ne (tgt := 187) hx hb dX5_isInside_171 (by decide) (fun c171 => ?_) (fun c171 => ?_)
                              · simp only [ne_eq, lg_cmp_eq] at c171
                                have hSd : ¬ mSkip fpx fpy lv x y d := by first | exact (fun h => absurd (h.1.symm.trans c159) (by decide)) | exact (fun h => c171 h.2.1) | exact (fun h => c184 h.2.2)
                                refine lv_aload_n hx hb dX5_isInside_187 rfl (lv_at hl 0 rfl) ?_
                                refine lv_iload hx hb dX5_isInside_188 (lv_at hl 7 rfl) ?_
                                refine lv_iload hx hb dX5_isInside_190 (lv_at hl 8 rfl) ?_
                                refine lv_iload hx hb dX5_isInside_192 (lv_at hl 9 rfl) ?_
                                refine lv_lload_n hx hb dX5_isInside_194 rfl (lv_at hl 2 rfl) ?_
                                refine lv_lload hx hb dX5_isInside_195 (lv_at hl 3 rfl) ?_
                                refine kpVi (q0 := 0) (ci := 5) (As := [.int (nI a), .int (nI b), .int (nI d), .long x, .long y]) (rest := []) (WC := [(om, .inr (5, [.int (nI cd), .int (nI ns), .ref apx, .ref apy, .ref act, .int (nI nb), .ref asd, .ref amv, .ref asl, .ref apl, .ref asw, .int (nI nw), .ref aor, .int (nI nc), .ref aon, .ref atw, .long mx, .long my, .ref aup, .ref alw, .int (nI nm), .long up, .long lo, .long rx, .long ry])), (apx, .inl (cJ, 256, .inr (.inl fpx))), (apy, .inl (cJ, 256, .inr (.inl fpy)))]) (tyC := [(cJ, .long), (cI, .int), (cZ, .boolean)]) ⟨hx, hb, hml, hown, hts⟩ (tX5_isInTriangle l dC dI cJ cI cZ om cd ns apx apy act nb asd amv asl apl asw nw aor nc aon atw aup alw nm mx my up lo rx ry fpx fpy a b d x y (by omega) (by omega) (by omega)) (cwV 5 hts gX5_isInside_X5_isInTriangle rfl rfl rfl (by decide +kernel) ⟨Nat.le_of_ble_eq_true rfl, Nat.le_of_ble_eq_true rfl⟩) (kPick (isC := [0, 1, 2]) hP rfl) (hK.sub [0, 1, 2] rfl) rfl rfl rfl rfl hl.1 (Nat.le_of_ble_eq_true rfl) dX5_isInside_197 ⟨Nat.le_of_ble_eq_true rfl, Nat.le_of_ble_eq_true rfl⟩ ?_
                                refine lv_if_eq (tgt := 205) hx hb dX5_isInside_200 (by decide) (fun c200 => ?_) (fun c200 => ?_)
                                · replace c200 := bI_0 c200; replace c200 := pB_not c200
                                  refine lv_iinc (v := (nI (d + 1))) (lv' := [(11, .int (nI (d + 1))), (0, .ref om), (1, .int (nI s_)), (2, .long x), (4, .long y), (6, .int (bI lv)), (7, .int (nI (16 * s_))), (8, .int (nI (16 * s_ + ct s_))), (9, .int (nI a)), (10, .int (nI b))]) hx hb dX5_isInside_205 hl (k := 9) rfl (show (nI d) + Int32.ofInt 1 = nI (d + 1) from nI_add d 1) (by decide) rfl (fun ls hl => ?_)
                                  refine lv_goto (tgt := 150) hx hb dX5_isInside_208 (by decide) ?_
                                  exact ih150 (d + 1) _ _ _ ⟨rfl, rfl, lv_sub hl [1, 2, 3, 4, 5, 6, 7, 8, 9, 0] rfl, ⟨by omega, by omega, fun j h1 h2 => by rcases Nat.lt_or_ge j d with h | h; exact hC j h1 h; rw [show j = d by omega]; first | exact (fun z => z.1 ⟨c159, c171, c184⟩) | exact (fun z => c200 z.2)⟩⟩ (by simp only []; omega)
                                · replace c200 := bI_n c200; replace c200 := pB_iff.mp c200
                                  refine lv_iconst (v := (nI 1)) hx hb dX5_isInside_203 (by decide) ?_
                                  exact kRz hx hb hr hlocks dX5_isInside_204 (kp1 ⟨a, hfa, c25, hSa, b, hab, c69, hSb, Or.inr ⟨d, hbd, c154, hSd, c200⟩⟩)
                              · simp only [ne_eq, Decidable.not_not, lg_cmp_eq] at c171
                                refine lv_aload_n hx hb dX5_isInside_174 rfl (lv_at hl 0 rfl) ?_
                                refine va_get (D := (dC, dI)) (ci := 5) (v := .ref apy) (C := RX5) (T := TX5) (N := 25) hx hb hts hi5 hown hK hP 0 rfl rfl 3 (by decide) f13 (fun _ h9 => h9) rfl dX5_isInside_175 ?_
                                refine lv_iload hx hb dX5_isInside_178 (lv_at hl 9 rfl) ?_
                                refine va_lald hx hb hK hP 2 0 rfl rfl (vp_in_nI (show d < 256 by omega) (by omega)) dX5_isInside_180 ?_
                                rw [show (nI d).toNatClampNeg = d from nI_clamp (show d < 2 ^ 31 by omega)]
                                refine lv_lload hx hb dX5_isInside_181 (lv_at hl 3 rfl) ?_
                                refine W.lcmp hx hb dX5_isInside_183 ?_
                                refine lv_if_eq (tgt := 205) hx hb dX5_isInside_184 (by decide) (fun c184 => ?_) (fun c184 => ?_)
                                · rw [lg_cmp_eq] at c184
                                  refine lv_iinc (v := (nI (d + 1))) (lv' := [(11, .int (nI (d + 1))), (0, .ref om), (1, .int (nI s_)), (2, .long x), (4, .long y), (6, .int (bI lv)), (7, .int (nI (16 * s_))), (8, .int (nI (16 * s_ + ct s_))), (9, .int (nI a)), (10, .int (nI b))]) hx hb dX5_isInside_205 hl (k := 9) rfl (show (nI d) + Int32.ofInt 1 = nI (d + 1) from nI_add d 1) (by decide) rfl (fun ls hl => ?_)
                                  refine lv_goto (tgt := 150) hx hb dX5_isInside_208 (by decide) ?_
                                  exact ih150 (d + 1) _ _ _ ⟨rfl, rfl, lv_sub hl [1, 2, 3, 4, 5, 6, 7, 8, 9, 0] rfl, ⟨by omega, by omega, fun j h1 h2 => by rcases Nat.lt_or_ge j d with h | h; exact hC j h1 h; rw [show j = d by omega]; first | exact (fun z => z.1 ⟨c159, c171, c184⟩) | exact (fun z => c200 z.2)⟩⟩ (by simp only []; omega)
                                · rw [lg_cmp_eq] at c184
                                  have hSd : ¬ mSkip fpx fpy lv x y d := by first | exact (fun h => absurd (h.1.symm.trans c159) (by decide)) | exact (fun h => c171 h.2.1) | exact (fun h => c184 h.2.2)
                                  refine lv_aload_n hx hb dX5_isInside_187 rfl (lv_at hl 0 rfl) ?_
                                  refine lv_iload hx hb dX5_isInside_188 (lv_at hl 7 rfl) ?_
                                  refine lv_iload hx hb dX5_isInside_190 (lv_at hl 8 rfl) ?_
                                  refine lv_iload hx hb dX5_isInside_192 (lv_at hl 9 rfl) ?_
                                  refine lv_lload_n hx hb dX5_isInside_194 rfl (lv_at hl 2 rfl) ?_
                                  refine lv_lload hx hb dX5_isInside_195 (lv_at hl 3 rfl) ?_
                                  refine kpVi (q0 := 0) (ci := 5) (As := [.int (nI a), .int (nI b), .int (nI d), .long x, .long y]) (rest := []) (WC := [(om, .inr (5, [.int (nI cd), .int (nI ns), .ref apx, .ref apy, .ref act, .int (nI nb), .ref asd, .ref amv, .ref asl, .ref apl, .ref asw, .int (nI nw), .ref aor, .int (nI nc), .ref aon, .ref atw, .long mx, .long my, .ref aup, .ref alw, .int (nI nm), .long up, .long lo, .long rx, .long ry])), (apx, .inl (cJ, 256, .inr (.inl fpx))), (apy, .inl (cJ, 256, .inr (.inl fpy)))]) (tyC := [(cJ, .long), (cI, .int), (cZ, .boolean)]) ⟨hx, hb, hml, hown, hts⟩ (tX5_isInTriangle l dC dI cJ cI cZ om cd ns apx apy act nb asd amv asl apl asw nw aor nc aon atw aup alw nm mx my up lo rx ry fpx fpy a b d x y (by omega) (by omega) (by omega)) (cwV 5 hts gX5_isInside_X5_isInTriangle rfl rfl rfl (by decide +kernel) ⟨Nat.le_of_ble_eq_true rfl, Nat.le_of_ble_eq_true rfl⟩) (kPick (isC := [0, 1, 2]) hP rfl) (hK.sub [0, 1, 2] rfl) rfl rfl rfl rfl hl.1 (Nat.le_of_ble_eq_true rfl) dX5_isInside_197 ⟨Nat.le_of_ble_eq_true rfl, Nat.le_of_ble_eq_true rfl⟩ ?_
                                  refine lv_if_eq (tgt := 205) hx hb dX5_isInside_200 (by decide) (fun c200 => ?_) (fun c200 => ?_)
                                  · replace c200 := bI_0 c200; replace c200 := pB_not c200
                                    refine lv_iinc (v := (nI (d + 1))) (lv' := [(11, .int (nI (d + 1))), (0, .ref om), (1, .int (nI s_)), (2, .long x), (4, .long y), (6, .int (bI lv)), (7, .int (nI (16 * s_))), (8, .int (nI (16 * s_ + ct s_))), (9, .int (nI a)), (10, .int (nI b))]) hx hb dX5_isInside_205 hl (k := 9) rfl (show (nI d) + Int32.ofInt 1 = nI (d + 1) from nI_add d 1) (by decide) rfl (fun ls hl => ?_)
                                    refine lv_goto (tgt := 150) hx hb dX5_isInside_208 (by decide) ?_
                                    exact ih150 (d + 1) _ _ _ ⟨rfl, rfl, lv_sub hl [1, 2, 3, 4, 5, 6, 7, 8, 9, 0] rfl, ⟨by omega, by omega, fun j h1 h2 => by rcases Nat.lt_or_ge j d with h | h; exact hC j h1 h; rw [show j = d by omega]; first | exact (fun z => z.1 ⟨c159, c171, c184⟩) | exact (fun z => c200 z.2)⟩⟩ (by simp only []; omega)
                                  · replace c200 := bI_n c200; replace c200 := pB_iff.mp c200
                                    refine lv_iconst (v := (nI 1)) hx hb dX5_isInside_203 (by decide) ?_
                                    exact kRz hx hb hr hlocks dX5_isInside_204 (kp1 ⟨a, hfa, c25, hSa, b, hab, c69, hSb, Or.inr ⟨d, hbd, c154, hSd, c200⟩⟩)
                        · exact ⟨rfl, rfl, lv_sub hl [1, 2, 3, 4, 5, 6, 7, 8, 9, 0] rfl, ⟨by omega, by omega, fun j h1 h2 => absurd h2 (by omega)⟩⟩
                      · replace c139 := bI_n c139; replace c139 := pB_iff.mp c139
                        refine lv_iconst (v := (nI 1)) hx hb dX5_isInside_142 (by decide) ?_
                        exact kRz hx hb hr hlocks dX5_isInside_143 (kp1 ⟨a, hfa, c25, hSa, b, hab, c69, hSb, Or.inl c139⟩)
                    · simp only [ne_eq, Decidable.not_not, lg_cmp_eq] at c99
                      refine lv_goto (tgt := 211) hx hb dX5_isInside_102 (by decide) ?_
                      refine lv_iinc (v := (nI (b + 1))) (lv' := [(10, .int (nI (b + 1))), (0, .ref om), (1, .int (nI s_)), (2, .long x), (4, .long y), (6, .int (bI lv)), (7, .int (nI (16 * s_))), (8, .int (nI (16 * s_ + ct s_))), (9, .int (nI a))]) hx hb dX5_isInside_211 hl (k := 8) rfl (show (nI b) + Int32.ofInt 1 = nI (b + 1) from nI_add b 1) (by decide) rfl (fun ls hl => ?_)
                      refine lv_goto (tgt := 65) hx hb dX5_isInside_214 (by decide) ?_
                      exact ih65 (b + 1) _ _ _ ⟨rfl, rfl, lv_sub hl [1, 2, 3, 4, 5, 6, 7, 8, 0] rfl, ⟨by omega, by omega, fun j h1 h2 => by rcases Nat.lt_or_ge j b with h | h; exact hB j h1 h; rw [show j = b by omega]; first | exact (fun z => z.1 ⟨c74, c86, c99⟩) | exact (fun z => z.2.elim c139 (fun ⟨w, w1, w2, w3⟩ => hC w w1 (by omega) w3))⟩⟩ (by simp only []; omega)
            · exact ⟨rfl, rfl, lv_sub hl [1, 2, 3, 4, 5, 6, 7, 8, 0] rfl, ⟨Nat.le_refl _, by omega, fun j h1 h2 => absurd h2 (by omega)⟩⟩
          · simp only [ne_eq, Decidable.not_not, lg_cmp_eq] at c55
            refine lv_goto (tgt := 217) hx hb dX5_isInside_58 (by decide) ?_
            refine lv_iinc (v := (nI (a + 1))) (lv' := [(9, .int (nI (a + 1))), (0, .ref om), (1, .int (nI s_)), (2, .long x), (4, .long y), (6, .int (bI lv)), (7, .int (nI (16 * s_))), (8, .int (nI (16 * s_ + ct s_)))]) hx hb dX5_isInside_217 hl (k := 7) rfl (show (nI a) + Int32.ofInt 1 = nI (a + 1) from nI_add a 1) (by decide) rfl (fun ls hl => ?_)
            refine lv_goto (tgt := 21) hx hb dX5_isInside_220 (by decide) ?_
            exact ih21 (a + 1) _ _ _ ⟨rfl, rfl, lv_sub hl [1, 2, 3, 4, 5, 6, 7, 0] rfl, ⟨by omega, by omega, fun j h1 h2 => by rcases Nat.lt_or_ge j a with h | h; exact hA j h1 h; rw [show j = a by omega]; first | exact (fun z => z.1 ⟨c30, c42, c55⟩) | (rintro ⟨-, w, w1, w2, w3⟩; exact hB w w1 (by omega) w3)⟩⟩ (by simp only []; omega)
  · exact ⟨rfl, rfl, lv_sub hl [3, 4, 5, 6, 7, 2, 1, 0] rfl, ⟨Nat.le_refl _, by omega, fun j h1 h2 => absurd h2 (by omega)⟩⟩
