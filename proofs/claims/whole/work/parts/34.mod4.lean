set_option maxHeartbeats 4000000 in
set_option maxRecDepth 100000 in
theorem tX5_isBefore (l : Launch) (dC : Nat → ClassId) (dI : Nat → Nat → Nat) (cJ cI cZ : ClassId) (om cd ns apx apy act nb asd amv asl apl asw nw aor nc aon atw aup alw nm : Nat) (mx my up lo rx ry : Int64) (fpx : Nat → Int64) (fpy : Nat → Int64) (od : Nat → Nat) (a b : Nat) (ho : od 0 < 256) (ha : a < 256) (hb_ : b < 256) : PMi l yX5_isBefore wsX5_isBefore { frames := 1, cells := 0, slots := 0, locals := 31 } [.ref om, .int (nI a), .int (nI b)] (dC, dI) [(om, .inr (5, [.int (nI cd), .int (nI ns), .ref apx, .ref apy, .ref act, .int (nI nb), .ref asd, .ref amv, .ref asl, .ref apl, .ref asw, .int (nI nw), .ref aor, .int (nI nc), .ref aon, .ref atw, .long mx, .long my, .ref aup, .ref alw, .int (nI nm), .long up, .long lo, .long rx, .long ry])), (apx, .inl (cJ, 256, .inr (.inl fpx))), (apy, .inl (cJ, 256, .inr (.inl fpy))), (aor, .inl (cI, 16, .inl (nF od)))] [(cJ, .long), (cI, .int), (cZ, .boolean)] (bI (pB (0 < mTurn (fpx (od 0)) (fpy (od 0)) (fpx a) (fpy a) (fpx b) (fpy b)))) := by
  refine kOf (cc := cX5_isBefore) (maxL := 4) (ret := (some .boolean)) (by decide) rfl (Nat.le_of_ble_eq_true rfl) ?_
  intro p e s m below meth c hx hb hr hml hts hown hlocks hB ls hl
  obtain ⟨hP, hK⟩ := hB
  have hl : lv_has ls 4 [(0, .ref om), (1, .int (nI a)), (2, .int (nI b))] := hl
  have hi5 : ∀ w ∈ u_ws RX5 TX5 25, w ∈ wsX5_isBefore := by decide +kernel
  have f7 := hts (.fieldLink RX5 7 "SweptBoxesModel" "px" "[J") (by decide +kernel)
  have f13 := hts (.fieldLink RX5 13 "SweptBoxesModel" "py" "[J") (by decide +kernel)
  have f36 := hts (.fieldLink RX5 36 "SweptBoxesModel" "order" "[I") (by decide +kernel)
  refine lv_aload_n hx hb dX5_isBefore_0 rfl (lv_at hl 0 rfl) ?_
  refine va_get (D := (dC, dI)) (ci := 5) (v := .ref aor) (C := RX5) (T := TX5) (N := 25) hx hb hts hi5 hown hK hP 0 rfl rfl 12 (by decide) f36 (fun _ h9 => h9) rfl dX5_isBefore_1 ?_
  refine lv_iconst (v := (nI 0)) hx hb dX5_isBefore_4 (by decide) ?_
  refine va_iald hx hb hK hP 3 1 rfl rfl (vp_in_nI (show 0 < 16 by omega) (by omega)) dX5_isBefore_5 ?_
  rw [show (nI 0).toNatClampNeg = 0 from nI_clamp (show 0 < 2 ^ 31 by omega)]
  rw [show (nF od) 0 = (nI (od 0)) from rfl]
  refine lv_istore_n (lv' := [(3, .int (nI (od 0))), (0, .ref om), (1, .int (nI a)), (2, .int (nI b))]) hx hb dX5_isBefore_6 rfl hl (by decide) rfl (fun ls hl => ?_)
  refine lv_aload_n hx hb dX5_isBefore_7 rfl (lv_at hl 1 rfl) ?_
  refine va_get (D := (dC, dI)) (ci := 5) (v := .ref apx) (C := RX5) (T := TX5) (N := 25) hx hb hts hi5 hown hK hP 0 rfl rfl 2 (by decide) f7 (fun _ h9 => h9) rfl dX5_isBefore_8 ?_
  refine lv_iload_n hx hb dX5_isBefore_11 rfl (lv_at hl 0 rfl) ?_
  refine va_lald hx hb hK hP 1 0 rfl rfl (vp_in_nI (show (od 0) < 256 by omega) (by omega)) dX5_isBefore_12 ?_
  rw [show (nI (od 0)).toNatClampNeg = (od 0) from nI_clamp (show (od 0) < 2 ^ 31 by omega)]
  refine lv_aload_n hx hb dX5_isBefore_13 rfl (lv_at hl 1 rfl) ?_
  refine va_get (D := (dC, dI)) (ci := 5) (v := .ref apy) (C := RX5) (T := TX5) (N := 25) hx hb hts hi5 hown hK hP 0 rfl rfl 3 (by decide) f13 (fun _ h9 => h9) rfl dX5_isBefore_14 ?_
  refine lv_iload_n hx hb dX5_isBefore_17 rfl (lv_at hl 0 rfl) ?_
  refine va_lald hx hb hK hP 2 0 rfl rfl (vp_in_nI (show (od 0) < 256 by omega) (by omega)) dX5_isBefore_18 ?_
  rw [show (nI (od 0)).toNatClampNeg = (od 0) from nI_clamp (show (od 0) < 2 ^ 31 by omega)]
  refine lv_aload_n hx hb dX5_isBefore_19 rfl (lv_at hl 1 rfl) ?_
  refine va_get (D := (dC, dI)) (ci := 5) (v := .ref apx) (C := RX5) (T := TX5) (N := 25) hx hb hts hi5 hown hK hP 0 rfl rfl 2 (by decide) f7 (fun _ h9 => h9) rfl dX5_isBefore_20 ?_
  refine lv_iload_n hx hb dX5_isBefore_23 rfl (lv_at hl 2 rfl) ?_
  refine va_lald hx hb hK hP 1 0 rfl rfl (vp_in_nI (show a < 256 by omega) (by omega)) dX5_isBefore_24 ?_
  rw [show (nI a).toNatClampNeg = a from nI_clamp (show a < 2 ^ 31 by omega)]
  refine lv_aload_n hx hb dX5_isBefore_25 rfl (lv_at hl 1 rfl) ?_
  refine va_get (D := (dC, dI)) (ci := 5) (v := .ref apy) (C := RX5) (T := TX5) (N := 25) hx hb hts hi5 hown hK hP 0 rfl rfl 3 (by decide) f13 (fun _ h9 => h9) rfl dX5_isBefore_26 ?_
  refine lv_iload_n hx hb dX5_isBefore_29 rfl (lv_at hl 2 rfl) ?_
  refine va_lald hx hb hK hP 2 0 rfl rfl (vp_in_nI (show a < 256 by omega) (by omega)) dX5_isBefore_30 ?_
  rw [show (nI a).toNatClampNeg = a from nI_clamp (show a < 2 ^ 31 by omega)]
  refine lv_aload_n hx hb dX5_isBefore_31 rfl (lv_at hl 1 rfl) ?_
  refine va_get (D := (dC, dI)) (ci := 5) (v := .ref apx) (C := RX5) (T := TX5) (N := 25) hx hb hts hi5 hown hK hP 0 rfl rfl 2 (by decide) f7 (fun _ h9 => h9) rfl dX5_isBefore_32 ?_
  refine lv_iload_n hx hb dX5_isBefore_35 rfl (lv_at hl 3 rfl) ?_
  refine va_lald hx hb hK hP 1 0 rfl rfl (vp_in_nI (show b < 256 by omega) (by omega)) dX5_isBefore_36 ?_
  rw [show (nI b).toNatClampNeg = b from nI_clamp (show b < 2 ^ 31 by omega)]
  refine lv_aload_n hx hb dX5_isBefore_37 rfl (lv_at hl 1 rfl) ?_
  refine va_get (D := (dC, dI)) (ci := 5) (v := .ref apy) (C := RX5) (T := TX5) (N := 25) hx hb hts hi5 hown hK hP 0 rfl rfl 3 (by decide) f13 (fun _ h9 => h9) rfl dX5_isBefore_38 ?_
  refine lv_iload_n hx hb dX5_isBefore_41 rfl (lv_at hl 3 rfl) ?_
  refine va_lald hx hb hK hP 2 0 rfl rfl (vp_in_nI (show b < 256 by omega) (by omega)) dX5_isBefore_42 ?_
  rw [show (nI b).toNatClampNeg = b from nI_clamp (show b < 2 ^ 31 by omega)]
  refine kpSl (As := [.long (fpx ((od 0))), .long (fpy ((od 0))), .long (fpx a), .long (fpy a), .long (fpx b), .long (fpy b)]) (rest := []) (WC := []) (tyC := []) ⟨hx, hb, hml, hown, hts⟩ (tX5_turn l dC dI (fpx ((od 0))) (fpy ((od 0))) (fpx a) (fpy a) (fpx b) (fpy b)) (cwS 6 hts gX5_isBefore_X5_turn rfl rfl rfl (by decide +kernel) ⟨Nat.le_of_ble_eq_true rfl, Nat.le_of_ble_eq_true rfl⟩) (kPick (isC := []) hP rfl) (hK.sub [] rfl) rfl rfl hl.1 (Nat.le_of_ble_eq_true rfl) dX5_isBefore_43 ⟨Nat.le_of_ble_eq_true rfl, Nat.le_of_ble_eq_true rfl⟩ ?_
  refine lv_lconst (v := 0) hx hb dX5_isBefore_46 (by decide) ?_
  refine W.lcmp hx hb dX5_isBefore_47 ?_
  refine lv_if_le (tgt := 55) hx hb dX5_isBefore_48 (by decide) (fun c48 => ?_) (fun c48 => ?_)
  · rw [lg_cmp_le] at c48
    refine lv_iconst (v := (nI 0)) hx hb dX5_isBefore_55 (by decide) ?_
    exact kRz hx hb hr hlocks dX5_isBefore_56 (kp0 (Int64.not_lt.mpr c48))
  · rw [lg_cmp_le, Int64.not_le] at c48
    refine lv_iconst (v := (nI 1)) hx hb dX5_isBefore_51 (by decide) ?_
    refine lv_goto (tgt := 56) hx hb dX5_isBefore_52 (by decide) ?_
    exact kRz hx hb hr hlocks dX5_isBefore_56 (kp1 c48)

def mMeet (fpx fpy : Nat → Int64) (a b g h : Nat) : Prop := mOn (fpx a) (fpy a) (fpx b) (fpy b) (fpx g) (fpy g) ∨ mOn (fpx a) (fpy a) (fpx b) (fpy b) (fpx h) (fpy h) ∨ mOn (fpx g) (fpy g) (fpx h) (fpy h) (fpx a) (fpy a) ∨ mOn (fpx g) (fpy g) (fpx h) (fpy h) (fpx b) (fpy b) ∨ (mSide (mTurn (fpx a) (fpy a) (fpx b) (fpy b) (fpx g) (fpy g)) * mSide (mTurn (fpx a) (fpy a) (fpx b) (fpy b) (fpx h) (fpy h)) < 0 ∧ mSide (mTurn (fpx g) (fpy g) (fpx h) (fpy h) (fpx a) (fpy a)) * mSide (mTurn (fpx g) (fpy g) (fpx h) (fpy h) (fpx b) (fpy b)) < 0)
set_option maxHeartbeats 4000000 in
set_option maxRecDepth 100000 in
theorem tX5_isMeeting (l : Launch) (dC : Nat → ClassId) (dI : Nat → Nat → Nat) (cJ cI cZ : ClassId) (om cd ns apx apy act nb asd amv asl apl asw nw aor nc aon atw aup alw nm : Nat) (mx my up lo rx ry : Int64) (fpx : Nat → Int64) (fpy : Nat → Int64) (a b g h : Nat) (ha : a < 256) (hb_ : b < 256) (hg : g < 256) (hh : h < 256) : PMi l yX5_isMeeting wsX5_isMeeting { frames := 2, cells := 0, slots := 0, locals := 62 } [.ref om, .int (nI a), .int (nI b), .int (nI g), .int (nI h)] (dC, dI) [(om, .inr (5, [.int (nI cd), .int (nI ns), .ref apx, .ref apy, .ref act, .int (nI nb), .ref asd, .ref amv, .ref asl, .ref apl, .ref asw, .int (nI nw), .ref aor, .int (nI nc), .ref aon, .ref atw, .long mx, .long my, .ref aup, .ref alw, .int (nI nm), .long up, .long lo, .long rx, .long ry])), (apx, .inl (cJ, 256, .inr (.inl fpx))), (apy, .inl (cJ, 256, .inr (.inl fpy)))] [(cJ, .long), (cI, .int), (cZ, .boolean)] (bI (pB (mMeet fpx fpy a b g h))) := by
  refine kOf (cc := cX5_isMeeting) (maxL := 9) (ret := (some .boolean)) (by decide) rfl (Nat.le_of_ble_eq_true rfl) ?_
  intro p e s m below meth c hx hb hr hml hts hown hlocks hB ls hl
  obtain ⟨hP, hK⟩ := hB
  have hl : lv_has ls 9 [(0, .ref om), (1, .int (nI a)), (2, .int (nI b)), (3, .int (nI g)), (4, .int (nI h))] := hl
  have hi5 : ∀ w ∈ u_ws RX5 TX5 25, w ∈ wsX5_isMeeting := by decide +kernel
  have f7 := hts (.fieldLink RX5 7 "SweptBoxesModel" "px" "[J") (by decide +kernel)
  have f13 := hts (.fieldLink RX5 13 "SweptBoxesModel" "py" "[J") (by decide +kernel)
  refine lv_aload_n hx hb dX5_isMeeting_0 rfl (lv_at hl 0 rfl) ?_
  refine va_get (D := (dC, dI)) (ci := 5) (v := .ref apx) (C := RX5) (T := TX5) (N := 25) hx hb hts hi5 hown hK hP 0 rfl rfl 2 (by decide) f7 (fun _ h9 => h9) rfl dX5_isMeeting_1 ?_
  refine lv_iload_n hx hb dX5_isMeeting_4 rfl (lv_at hl 1 rfl) ?_
  refine va_lald hx hb hK hP 1 0 rfl rfl (vp_in_nI (show a < 256 by omega) (by omega)) dX5_isMeeting_5 ?_
  rw [show (nI a).toNatClampNeg = a from nI_clamp (show a < 2 ^ 31 by omega)]
  refine lv_aload_n hx hb dX5_isMeeting_6 rfl (lv_at hl 0 rfl) ?_
  refine va_get (D := (dC, dI)) (ci := 5) (v := .ref apy) (C := RX5) (T := TX5) (N := 25) hx hb hts hi5 hown hK hP 0 rfl rfl 3 (by decide) f13 (fun _ h9 => h9) rfl dX5_isMeeting_7 ?_
  refine lv_iload_n hx hb dX5_isMeeting_10 rfl (lv_at hl 1 rfl) ?_
  refine va_lald hx hb hK hP 2 0 rfl rfl (vp_in_nI (show a < 256 by omega) (by omega)) dX5_isMeeting_11 ?_
  rw [show (nI a).toNatClampNeg = a from nI_clamp (show a < 2 ^ 31 by omega)]
  refine lv_aload_n hx hb dX5_isMeeting_12 rfl (lv_at hl 0 rfl) ?_
  refine va_get (D := (dC, dI)) (ci := 5) (v := .ref apx) (C := RX5) (T := TX5) (N := 25) hx hb hts hi5 hown hK hP 0 rfl rfl 2 (by decide) f7 (fun _ h9 => h9) rfl dX5_isMeeting_13 ?_
  refine lv_iload_n hx hb dX5_isMeeting_16 rfl (lv_at hl 2 rfl) ?_
  refine va_lald hx hb hK hP 1 0 rfl rfl (vp_in_nI (show b < 256 by omega) (by omega)) dX5_isMeeting_17 ?_
  rw [show (nI b).toNatClampNeg = b from nI_clamp (show b < 2 ^ 31 by omega)]
  refine lv_aload_n hx hb dX5_isMeeting_18 rfl (lv_at hl 0 rfl) ?_
  refine va_get (D := (dC, dI)) (ci := 5) (v := .ref apy) (C := RX5) (T := TX5) (N := 25) hx hb hts hi5 hown hK hP 0 rfl rfl 3 (by decide) f13 (fun _ h9 => h9) rfl dX5_isMeeting_19 ?_
  refine lv_iload_n hx hb dX5_isMeeting_22 rfl (lv_at hl 2 rfl) ?_
  refine va_lald hx hb hK hP 2 0 rfl rfl (vp_in_nI (show b < 256 by omega) (by omega)) dX5_isMeeting_23 ?_
  rw [show (nI b).toNatClampNeg = b from nI_clamp (show b < 2 ^ 31 by omega)]
  refine lv_aload_n hx hb dX5_isMeeting_24 rfl (lv_at hl 0 rfl) ?_
  refine va_get (D := (dC, dI)) (ci := 5) (v := .ref apx) (C := RX5) (T := TX5) (N := 25) hx hb hts hi5 hown hK hP 0 rfl rfl 2 (by decide) f7 (fun _ h9 => h9) rfl dX5_isMeeting_25 ?_
  refine lv_iload_n hx hb dX5_isMeeting_28 rfl (lv_at hl 3 rfl) ?_
  refine va_lald hx hb hK hP 1 0 rfl rfl (vp_in_nI (show g < 256 by omega) (by omega)) dX5_isMeeting_29 ?_
  rw [show (nI g).toNatClampNeg = g from nI_clamp (show g < 2 ^ 31 by omega)]
  refine lv_aload_n hx hb dX5_isMeeting_30 rfl (lv_at hl 0 rfl) ?_
  refine va_get (D := (dC, dI)) (ci := 5) (v := .ref apy) (C := RX5) (T := TX5) (N := 25) hx hb hts hi5 hown hK hP 0 rfl rfl 3 (by decide) f13 (fun _ h9 => h9) rfl dX5_isMeeting_31 ?_
  refine lv_iload_n hx hb dX5_isMeeting_34 rfl (lv_at hl 3 rfl) ?_
  refine va_lald hx hb hK hP 2 0 rfl rfl (vp_in_nI (show g < 256 by omega) (by omega)) dX5_isMeeting_35 ?_
  rw [show (nI g).toNatClampNeg = g from nI_clamp (show g < 2 ^ 31 by omega)]
  refine kpSi (As := [.long (fpx a), .long (fpy a), .long (fpx b), .long (fpy b), .long (fpx g), .long (fpy g)]) (rest := []) (WC := []) (tyC := []) ⟨hx, hb, hml, hown, hts⟩ (tX5_isOn l dC dI (fpx a) (fpy a) (fpx b) (fpy b) (fpx g) (fpy g)) (cwS 6 hts gX5_isMeeting_X5_isOn rfl rfl rfl (by decide +kernel) ⟨Nat.le_of_ble_eq_true rfl, Nat.le_of_ble_eq_true rfl⟩) (kPick (isC := []) hP rfl) (hK.sub [] rfl) rfl rfl hl.1 (Nat.le_of_ble_eq_true rfl) dX5_isMeeting_36 ⟨Nat.le_of_ble_eq_true rfl, Nat.le_of_ble_eq_true rfl⟩ ?_
  refine lv_if_ne (tgt := 174) hx hb dX5_isMeeting_39 (by decide) (fun c39 => ?_) (fun c39 => ?_)
  · replace c39 := bI_n c39; replace c39 := pB_iff.mp c39
    refine lv_iconst (v := (nI 1)) hx hb dX5_isMeeting_174 (by decide) ?_
    exact kRz hx hb hr hlocks dX5_isMeeting_175 (kp1 (Or.inl c39))
  · replace c39 := bI_0 c39; replace c39 := pB_not c39
    refine lv_aload_n hx hb dX5_isMeeting_42 rfl (lv_at hl 0 rfl) ?_
    refine va_get (D := (dC, dI)) (ci := 5) (v := .ref apx) (C := RX5) (T := TX5) (N := 25) hx hb hts hi5 hown hK hP 0 rfl rfl 2 (by decide) f7 (fun _ h9 => h9) rfl dX5_isMeeting_43 ?_
    refine lv_iload_n hx hb dX5_isMeeting_46 rfl (lv_at hl 1 rfl) ?_
    refine va_lald hx hb hK hP 1 0 rfl rfl (vp_in_nI (show a < 256 by omega) (by omega)) dX5_isMeeting_47 ?_
    rw [show (nI a).toNatClampNeg = a from nI_clamp (show a < 2 ^ 31 by omega)]
    refine lv_aload_n hx hb dX5_isMeeting_48 rfl (lv_at hl 0 rfl) ?_
    refine va_get (D := (dC, dI)) (ci := 5) (v := .ref apy) (C := RX5) (T := TX5) (N := 25) hx hb hts hi5 hown hK hP 0 rfl rfl 3 (by decide) f13 (fun _ h9 => h9) rfl dX5_isMeeting_49 ?_
    refine lv_iload_n hx hb dX5_isMeeting_52 rfl (lv_at hl 1 rfl) ?_
    refine va_lald hx hb hK hP 2 0 rfl rfl (vp_in_nI (show a < 256 by omega) (by omega)) dX5_isMeeting_53 ?_
    rw [show (nI a).toNatClampNeg = a from nI_clamp (show a < 2 ^ 31 by omega)]
    refine lv_aload_n hx hb dX5_isMeeting_54 rfl (lv_at hl 0 rfl) ?_
    refine va_get (D := (dC, dI)) (ci := 5) (v := .ref apx) (C := RX5) (T := TX5) (N := 25) hx hb hts hi5 hown hK hP 0 rfl rfl 2 (by decide) f7 (fun _ h9 => h9) rfl dX5_isMeeting_55 ?_
    refine lv_iload_n hx hb dX5_isMeeting_58 rfl (lv_at hl 2 rfl) ?_
    refine va_lald hx hb hK hP 1 0 rfl rfl (vp_in_nI (show b < 256 by omega) (by omega)) dX5_isMeeting_59 ?_
    rw [show (nI b).toNatClampNeg = b from nI_clamp (show b < 2 ^ 31 by omega)]
    refine lv_aload_n hx hb dX5_isMeeting_60 rfl (lv_at hl 0 rfl) ?_
    refine va_get (D := (dC, dI)) (ci := 5) (v := .ref apy) (C := RX5) (T := TX5) (N := 25) hx hb hts hi5 hown hK hP 0 rfl rfl 3 (by decide) f13 (fun _ h9 => h9) rfl dX5_isMeeting_61 ?_
    refine lv_iload_n hx hb dX5_isMeeting_64 rfl (lv_at hl 2 rfl) ?_
    refine va_lald hx hb hK hP 2 0 rfl rfl (vp_in_nI (show b < 256 by omega) (by omega)) dX5_isMeeting_65 ?_
    rw [show (nI b).toNatClampNeg = b from nI_clamp (show b < 2 ^ 31 by omega)]
    refine lv_aload_n hx hb dX5_isMeeting_66 rfl (lv_at hl 0 rfl) ?_
    refine va_get (D := (dC, dI)) (ci := 5) (v := .ref apx) (C := RX5) (T := TX5) (N := 25) hx hb hts hi5 hown hK hP 0 rfl rfl 2 (by decide) f7 (fun _ h9 => h9) rfl dX5_isMeeting_67 ?_
    refine lv_iload hx hb dX5_isMeeting_70 (lv_at hl 4 rfl) ?_
    refine va_lald hx hb hK hP 1 0 rfl rfl (vp_in_nI (show h < 256 by omega) (by omega)) dX5_isMeeting_72 ?_
    rw [show (nI h).toNatClampNeg = h from nI_clamp (show h < 2 ^ 31 by omega)]
    refine lv_aload_n hx hb dX5_isMeeting_73 rfl (lv_at hl 0 rfl) ?_
    refine va_get (D := (dC, dI)) (ci := 5) (v := .ref apy) (C := RX5) (T := TX5) (N := 25) hx hb hts hi5 hown hK hP 0 rfl rfl 3 (by decide) f13 (fun _ h9 => h9) rfl dX5_isMeeting_74 ?_
    refine lv_iload hx hb dX5_isMeeting_77 (lv_at hl 4 rfl) ?_
    refine va_lald hx hb hK hP 2 0 rfl rfl (vp_in_nI (show h < 256 by omega) (by omega)) dX5_isMeeting_79 ?_
    rw [show (nI h).toNatClampNeg = h from nI_clamp (show h < 2 ^ 31 by omega)]
    refine kpSi (As := [.long (fpx a), .long (fpy a), .long (fpx b), .long (fpy b), .long (fpx h), .long (fpy h)]) (rest := []) (WC := []) (tyC := []) ⟨hx, hb, hml, hown, hts⟩ (tX5_isOn l dC dI (fpx a) (fpy a) (fpx b) (fpy b) (fpx h) (fpy h)) (cwS 6 hts gX5_isMeeting_X5_isOn rfl rfl rfl (by decide +kernel) ⟨Nat.le_of_ble_eq_true rfl, Nat.le_of_ble_eq_true rfl⟩) (kPick (isC := []) hP rfl) (hK.sub [] rfl) rfl rfl hl.1 (Nat.le_of_ble_eq_true rfl) dX5_isMeeting_80 ⟨Nat.le_of_ble_eq_true rfl, Nat.le_of_ble_eq_true rfl⟩ ?_
    refine lv_if_ne (tgt := 174) hx hb dX5_isMeeting_83 (by decide) (fun c83 => ?_) (fun c83 => ?_)
    · replace c83 := bI_n c83; replace c83 := pB_iff.mp c83
      refine lv_iconst (v := (nI 1)) hx hb dX5_isMeeting_174 (by decide) ?_
      exact kRz hx hb hr hlocks dX5_isMeeting_175 (kp1 (Or.inr (Or.inl c83)))
    · replace c83 := bI_0 c83; replace c83 := pB_not c83
      refine lv_aload_n hx hb dX5_isMeeting_86 rfl (lv_at hl 0 rfl) ?_
      refine va_get (D := (dC, dI)) (ci := 5) (v := .ref apx) (C := RX5) (T := TX5) (N := 25) hx hb hts hi5 hown hK hP 0 rfl rfl 2 (by decide) f7 (fun _ h9 => h9) rfl dX5_isMeeting_87 ?_
      refine lv_iload_n hx hb dX5_isMeeting_90 rfl (lv_at hl 3 rfl) ?_
      refine va_lald hx hb hK hP 1 0 rfl rfl (vp_in_nI (show g < 256 by omega) (by omega)) dX5_isMeeting_91 ?_
      rw [show (nI g).toNatClampNeg = g from nI_clamp (show g < 2 ^ 31 by omega)]
      refine lv_aload_n hx hb dX5_isMeeting_92 rfl (lv_at hl 0 rfl) ?_
      refine va_get (D := (dC, dI)) (ci := 5) (v := .ref apy) (C := RX5) (T := TX5) (N := 25) hx hb hts hi5 hown hK hP 0 rfl rfl 3 (by decide) f13 (fun _ h9 => h9) rfl dX5_isMeeting_93 ?_
      refine lv_iload_n hx hb dX5_isMeeting_96 rfl (lv_at hl 3 rfl) ?_
      refine va_lald hx hb hK hP 2 0 rfl rfl (vp_in_nI (show g < 256 by omega) (by omega)) dX5_isMeeting_97 ?_
      rw [show (nI g).toNatClampNeg = g from nI_clamp (show g < 2 ^ 31 by omega)]
      refine lv_aload_n hx hb dX5_isMeeting_98 rfl (lv_at hl 0 rfl) ?_
      refine va_get (D := (dC, dI)) (ci := 5) (v := .ref apx) (C := RX5) (T := TX5) (N := 25) hx hb hts hi5 hown hK hP 0 rfl rfl 2 (by decide) f7 (fun _ h9 => h9) rfl dX5_isMeeting_99 ?_
      refine lv_iload hx hb dX5_isMeeting_102 (lv_at hl 4 rfl) ?_
      refine va_lald hx hb hK hP 1 0 rfl rfl (vp_in_nI (show h < 256 by omega) (by omega)) dX5_isMeeting_104 ?_
      rw [show (nI h).toNatClampNeg = h from nI_clamp (show h < 2 ^ 31 by omega)]
      refine lv_aload_n hx hb dX5_isMeeting_105 rfl (lv_at hl 0 rfl) ?_
      refine va_get (D := (dC, dI)) (ci := 5) (v := .ref apy) (C := RX5) (T := TX5) (N := 25) hx hb hts hi5 hown hK hP 0 rfl rfl 3 (by decide) f13 (fun _ h9 => h9) rfl dX5_isMeeting_106 ?_
      refine lv_iload hx hb dX5_isMeeting_109 (lv_at hl 4 rfl) ?_
      refine va_lald hx hb hK hP 2 0 rfl rfl (vp_in_nI (show h < 256 by omega) (by omega)) dX5_isMeeting_111 ?_
      rw [show (nI h).toNatClampNeg = h from nI_clamp (show h < 2 ^ 31 by omega)]
      refine lv_aload_n hx hb dX5_isMeeting_112 rfl (lv_at hl 0 rfl) ?_
      refine va_get (D := (dC, dI)) (ci := 5) (v := .ref apx) (C := RX5) (T := TX5) (N := 25) hx hb hts hi5 hown hK hP 0 rfl rfl 2 (by decide) f7 (fun _ h9 => h9) rfl dX5_isMeeting_113 ?_
      refine lv_iload_n hx hb dX5_isMeeting_116 rfl (lv_at hl 1 rfl) ?_
      refine va_lald hx hb hK hP 1 0 rfl rfl (vp_in_nI (show a < 256 by omega) (by omega)) dX5_isMeeting_117 ?_
      rw [show (nI a).toNatClampNeg = a from nI_clamp (show a < 2 ^ 31 by omega)]
      refine lv_aload_n hx hb dX5_isMeeting_118 rfl (lv_at hl 0 rfl) ?_
      refine va_get (D := (dC, dI)) (ci := 5) (v := .ref apy) (C := RX5) (T := TX5) (N := 25) hx hb hts hi5 hown hK hP 0 rfl rfl 3 (by decide) f13 (fun _ h9 => h9) rfl dX5_isMeeting_119 ?_
      refine lv_iload_n hx hb dX5_isMeeting_122 rfl (lv_at hl 1 rfl) ?_
      refine va_lald hx hb hK hP 2 0 rfl rfl (vp_in_nI (show a < 256 by omega) (by omega)) dX5_isMeeting_123 ?_
      rw [show (nI a).toNatClampNeg = a from nI_clamp (show a < 2 ^ 31 by omega)]
      refine kpSi (As := [.long (fpx g), .long (fpy g), .long (fpx h), .long (fpy h), .long (fpx a), .long (fpy a)]) (rest := []) (WC := []) (tyC := []) ⟨hx, hb, hml, hown, hts⟩ (tX5_isOn l dC dI (fpx g) (fpy g) (fpx h) (fpy h) (fpx a) (fpy a)) (cwS 6 hts gX5_isMeeting_X5_isOn rfl rfl rfl (by decide +kernel) ⟨Nat.le_of_ble_eq_true rfl, Nat.le_of_ble_eq_true rfl⟩) (kPick (isC := []) hP rfl) (hK.sub [] rfl) rfl rfl hl.1 (Nat.le_of_ble_eq_true rfl) dX5_isMeeting_124 ⟨Nat.le_of_ble_eq_true rfl, Nat.le_of_ble_eq_true rfl⟩ ?_
      refine lv_if_ne (tgt := 174) hx hb dX5_isMeeting_127 (by decide) (fun c127 => ?_) (fun c127 => ?_)
      · replace c127 := bI_n c127; replace c127 := pB_iff.mp c127
        refine lv_iconst (v := (nI 1)) hx hb dX5_isMeeting_174 (by decide) ?_
        exact kRz hx hb hr hlocks dX5_isMeeting_175 (kp1 (Or.inr (Or.inr (Or.inl c127))))
      · replace c127 := bI_0 c127; replace c127 := pB_not c127
        refine lv_aload_n hx hb dX5_isMeeting_130 rfl (lv_at hl 0 rfl) ?_
        refine va_get (D := (dC, dI)) (ci := 5) (v := .ref apx) (C := RX5) (T := TX5) (N := 25) hx hb hts hi5 hown hK hP 0 rfl rfl 2 (by decide) f7 (fun _ h9 => h9) rfl dX5_isMeeting_131 ?_
        refine lv_iload_n hx hb dX5_isMeeting_134 rfl (lv_at hl 3 rfl) ?_
        refine va_lald hx hb hK hP 1 0 rfl rfl (vp_in_nI (show g < 256 by omega) (by omega)) dX5_isMeeting_135 ?_
        rw [show (nI g).toNatClampNeg = g from nI_clamp (show g < 2 ^ 31 by omega)]
        refine lv_aload_n hx hb dX5_isMeeting_136 rfl (lv_at hl 0 rfl) ?_
        refine va_get (D := (dC, dI)) (ci := 5) (v := .ref apy) (C := RX5) (T := TX5) (N := 25) hx hb hts hi5 hown hK hP 0 rfl rfl 3 (by decide) f13 (fun _ h9 => h9) rfl dX5_isMeeting_137 ?_
        refine lv_iload_n hx hb dX5_isMeeting_140 rfl (lv_at hl 3 rfl) ?_
        refine va_lald hx hb hK hP 2 0 rfl rfl (vp_in_nI (show g < 256 by omega) (by omega)) dX5_isMeeting_141 ?_
        rw [show (nI g).toNatClampNeg = g from nI_clamp (show g < 2 ^ 31 by omega)]
        refine lv_aload_n hx hb dX5_isMeeting_142 rfl (lv_at hl 0 rfl) ?_
        refine va_get (D := (dC, dI)) (ci := 5) (v := .ref apx) (C := RX5) (T := TX5) (N := 25) hx hb hts hi5 hown hK hP 0 rfl rfl 2 (by decide) f7 (fun _ h9 => h9) rfl dX5_isMeeting_143 ?_
        refine lv_iload hx hb dX5_isMeeting_146 (lv_at hl 4 rfl) ?_
        refine va_lald hx hb hK hP 1 0 rfl rfl (vp_in_nI (show h < 256 by omega) (by omega)) dX5_isMeeting_148 ?_
        rw [show (nI h).toNatClampNeg = h from nI_clamp (show h < 2 ^ 31 by omega)]
        refine lv_aload_n hx hb dX5_isMeeting_149 rfl (lv_at hl 0 rfl) ?_
        refine va_get (D := (dC, dI)) (ci := 5) (v := .ref apy) (C := RX5) (T := TX5) (N := 25) hx hb hts hi5 hown hK hP 0 rfl rfl 3 (by decide) f13 (fun _ h9 => h9) rfl dX5_isMeeting_150 ?_
        refine lv_iload hx hb dX5_isMeeting_153 (lv_at hl 4 rfl) ?_
        refine va_lald hx hb hK hP 2 0 rfl rfl (vp_in_nI (show h < 256 by omega) (by omega)) dX5_isMeeting_155 ?_
        rw [show (nI h).toNatClampNeg = h from nI_clamp (show h < 2 ^ 31 by omega)]
        refine lv_aload_n hx hb dX5_isMeeting_156 rfl (lv_at hl 0 rfl) ?_
        refine va_get (D := (dC, dI)) (ci := 5) (v := .ref apx) (C := RX5) (T := TX5) (N := 25) hx hb hts hi5 hown hK hP 0 rfl rfl 2 (by decide) f7 (fun _ h9 => h9) rfl dX5_isMeeting_157 ?_
        refine lv_iload_n hx hb dX5_isMeeting_160 rfl (lv_at hl 2 rfl) ?_
        refine va_lald hx hb hK hP 1 0 rfl rfl (vp_in_nI (show b < 256 by omega) (by omega)) dX5_isMeeting_161 ?_
        rw [show (nI b).toNatClampNeg = b from nI_clamp (show b < 2 ^ 31 by omega)]
        refine lv_aload_n hx hb dX5_isMeeting_162 rfl (lv_at hl 0 rfl) ?_
        refine va_get (D := (dC, dI)) (ci := 5) (v := .ref apy) (C := RX5) (T := TX5) (N := 25) hx hb hts hi5 hown hK hP 0 rfl rfl 3 (by decide) f13 (fun _ h9 => h9) rfl dX5_isMeeting_163 ?_
        refine lv_iload_n hx hb dX5_isMeeting_166 rfl (lv_at hl 2 rfl) ?_
        refine va_lald hx hb hK hP 2 0 rfl rfl (vp_in_nI (show b < 256 by omega) (by omega)) dX5_isMeeting_167 ?_
        rw [show (nI b).toNatClampNeg = b from nI_clamp (show b < 2 ^ 31 by omega)]
        refine kpSi (As := [.long (fpx g), .long (fpy g), .long (fpx h), .long (fpy h), .long (fpx b), .long (fpy b)]) (rest := []) (WC := []) (tyC := []) ⟨hx, hb, hml, hown, hts⟩ (tX5_isOn l dC dI (fpx g) (fpy g) (fpx h) (fpy h) (fpx b) (fpy b)) (cwS 6 hts gX5_isMeeting_X5_isOn rfl rfl rfl (by decide +kernel) ⟨Nat.le_of_ble_eq_true rfl, Nat.le_of_ble_eq_true rfl⟩) (kPick (isC := []) hP rfl) (hK.sub [] rfl) rfl rfl hl.1 (Nat.le_of_ble_eq_true rfl) dX5_isMeeting_168 ⟨Nat.le_of_ble_eq_true rfl, Nat.le_of_ble_eq_true rfl⟩ ?_
        refine lv_if_eq (tgt := 176) hx hb dX5_isMeeting_171 (by decide) (fun c171 => ?_) (fun c171 => ?_)
        · replace c171 := bI_0 c171; replace c171 := pB_not c171
          refine lv_aload_n hx hb dX5_isMeeting_176 rfl (lv_at hl 0 rfl) ?_
          refine va_get (D := (dC, dI)) (ci := 5) (v := .ref apx) (C := RX5) (T := TX5) (N := 25) hx hb hts hi5 hown hK hP 0 rfl rfl 2 (by decide) f7 (fun _ h9 => h9) rfl dX5_isMeeting_177 ?_
          refine lv_iload_n hx hb dX5_isMeeting_180 rfl (lv_at hl 1 rfl) ?_
          refine va_lald hx hb hK hP 1 0 rfl rfl (vp_in_nI (show a < 256 by omega) (by omega)) dX5_isMeeting_181 ?_
          rw [show (nI a).toNatClampNeg = a from nI_clamp (show a < 2 ^ 31 by omega)]
          refine lv_aload_n hx hb dX5_isMeeting_182 rfl (lv_at hl 0 rfl) ?_
          refine va_get (D := (dC, dI)) (ci := 5) (v := .ref apy) (C := RX5) (T := TX5) (N := 25) hx hb hts hi5 hown hK hP 0 rfl rfl 3 (by decide) f13 (fun _ h9 => h9) rfl dX5_isMeeting_183 ?_
          refine lv_iload_n hx hb dX5_isMeeting_186 rfl (lv_at hl 1 rfl) ?_
          refine va_lald hx hb hK hP 2 0 rfl rfl (vp_in_nI (show a < 256 by omega) (by omega)) dX5_isMeeting_187 ?_
          rw [show (nI a).toNatClampNeg = a from nI_clamp (show a < 2 ^ 31 by omega)]
          refine lv_aload_n hx hb dX5_isMeeting_188 rfl (lv_at hl 0 rfl) ?_
          refine va_get (D := (dC, dI)) (ci := 5) (v := .ref apx) (C := RX5) (T := TX5) (N := 25) hx hb hts hi5 hown hK hP 0 rfl rfl 2 (by decide) f7 (fun _ h9 => h9) rfl dX5_isMeeting_189 ?_
          refine lv_iload_n hx hb dX5_isMeeting_192 rfl (lv_at hl 2 rfl) ?_
          refine va_lald hx hb hK hP 1 0 rfl rfl (vp_in_nI (show b < 256 by omega) (by omega)) dX5_isMeeting_193 ?_
          rw [show (nI b).toNatClampNeg = b from nI_clamp (show b < 2 ^ 31 by omega)]
          refine lv_aload_n hx hb dX5_isMeeting_194 rfl (lv_at hl 0 rfl) ?_
          refine va_get (D := (dC, dI)) (ci := 5) (v := .ref apy) (C := RX5) (T := TX5) (N := 25) hx hb hts hi5 hown hK hP 0 rfl rfl 3 (by decide) f13 (fun _ h9 => h9) rfl dX5_isMeeting_195 ?_
          refine lv_iload_n hx hb dX5_isMeeting_198 rfl (lv_at hl 2 rfl) ?_
          refine va_lald hx hb hK hP 2 0 rfl rfl (vp_in_nI (show b < 256 by omega) (by omega)) dX5_isMeeting_199 ?_
          rw [show (nI b).toNatClampNeg = b from nI_clamp (show b < 2 ^ 31 by omega)]
          refine lv_aload_n hx hb dX5_isMeeting_200 rfl (lv_at hl 0 rfl) ?_
          refine va_get (D := (dC, dI)) (ci := 5) (v := .ref apx) (C := RX5) (T := TX5) (N := 25) hx hb hts hi5 hown hK hP 0 rfl rfl 2 (by decide) f7 (fun _ h9 => h9) rfl dX5_isMeeting_201 ?_
          refine lv_iload_n hx hb dX5_isMeeting_204 rfl (lv_at hl 3 rfl) ?_
          refine va_lald hx hb hK hP 1 0 rfl rfl (vp_in_nI (show g < 256 by omega) (by omega)) dX5_isMeeting_205 ?_
          rw [show (nI g).toNatClampNeg = g from nI_clamp (show g < 2 ^ 31 by omega)]
          refine lv_aload_n hx hb dX5_isMeeting_206 rfl (lv_at hl 0 rfl) ?_
          refine va_get (D := (dC, dI)) (ci := 5) (v := .ref apy) (C := RX5) (T := TX5) (N := 25) hx hb hts hi5 hown hK hP 0 rfl rfl 3 (by decide) f13 (fun _ h9 => h9) rfl dX5_isMeeting_207 ?_
          refine lv_iload_n hx hb dX5_isMeeting_210 rfl (lv_at hl 3 rfl) ?_
          refine va_lald hx hb hK hP 2 0 rfl rfl (vp_in_nI (show g < 256 by omega) (by omega)) dX5_isMeeting_211 ?_
          rw [show (nI g).toNatClampNeg = g from nI_clamp (show g < 2 ^ 31 by omega)]
          refine kpSl (As := [.long (fpx a), .long (fpy a), .long (fpx b), .long (fpy b), .long (fpx g), .long (fpy g)]) (rest := []) (WC := []) (tyC := []) ⟨hx, hb, hml, hown, hts⟩ (tX5_turn l dC dI (fpx a) (fpy a) (fpx b) (fpy b) (fpx g) (fpy g)) (cwS 6 hts gX5_isMeeting_X5_turn rfl rfl rfl (by decide +kernel) ⟨Nat.le_of_ble_eq_true rfl, Nat.le_of_ble_eq_true rfl⟩) (kPick (isC := []) hP rfl) (hK.sub [] rfl) rfl rfl hl.1 (Nat.le_of_ble_eq_true rfl) dX5_isMeeting_212 ⟨Nat.le_of_ble_eq_true rfl, Nat.le_of_ble_eq_true rfl⟩ ?_
          refine kpSi (As := [.long (mTurn (fpx a) (fpy a) (fpx b) (fpy b) (fpx g) (fpy g))]) (rest := []) (WC := []) (tyC := []) ⟨hx, hb, hml, hown, hts⟩ (tX5_side l dC dI (mTurn (fpx a) (fpy a) (fpx b) (fpy b) (fpx g) (fpy g))) (cwS 1 hts gX5_isMeeting_X5_side rfl rfl rfl (by decide +kernel) ⟨Nat.le_of_ble_eq_true rfl, Nat.le_of_ble_eq_true rfl⟩) (kPick (isC := []) hP rfl) (hK.sub [] rfl) rfl rfl hl.1 (Nat.le_of_ble_eq_true rfl) dX5_isMeeting_215 ⟨Nat.le_of_ble_eq_true rfl, Nat.le_of_ble_eq_true rfl⟩ ?_
          refine lv_istore (lv' := [(5, .int (mSide (mTurn (fpx a) (fpy a) (fpx b) (fpy b) (fpx g) (fpy g)))), (0, .ref om), (1, .int (nI a)), (2, .int (nI b)), (3, .int (nI g)), (4, .int (nI h))]) hx hb dX5_isMeeting_218 hl (by decide) rfl (fun ls hl => ?_)
          refine lv_aload_n hx hb dX5_isMeeting_220 rfl (lv_at hl 1 rfl) ?_
          refine va_get (D := (dC, dI)) (ci := 5) (v := .ref apx) (C := RX5) (T := TX5) (N := 25) hx hb hts hi5 hown hK hP 0 rfl rfl 2 (by decide) f7 (fun _ h9 => h9) rfl dX5_isMeeting_221 ?_
          refine lv_iload_n hx hb dX5_isMeeting_224 rfl (lv_at hl 2 rfl) ?_
          refine va_lald hx hb hK hP 1 0 rfl rfl (vp_in_nI (show a < 256 by omega) (by omega)) dX5_isMeeting_225 ?_
          rw [show (nI a).toNatClampNeg = a from nI_clamp (show a < 2 ^ 31 by omega)]
          refine lv_aload_n hx hb dX5_isMeeting_226 rfl (lv_at hl 1 rfl) ?_
          refine va_get (D := (dC, dI)) (ci := 5) (v := .ref apy) (C := RX5) (T := TX5) (N := 25) hx hb hts hi5 hown hK hP 0 rfl rfl 3 (by decide) f13 (fun _ h9 => h9) rfl dX5_isMeeting_227 ?_
          refine lv_iload_n hx hb dX5_isMeeting_230 rfl (lv_at hl 2 rfl) ?_
          refine va_lald hx hb hK hP 2 0 rfl rfl (vp_in_nI (show a < 256 by omega) (by omega)) dX5_isMeeting_231 ?_
          rw [show (nI a).toNatClampNeg = a from nI_clamp (show a < 2 ^ 31 by omega)]
          refine lv_aload_n hx hb dX5_isMeeting_232 rfl (lv_at hl 1 rfl) ?_
          refine va_get (D := (dC, dI)) (ci := 5) (v := .ref apx) (C := RX5) (T := TX5) (N := 25) hx hb hts hi5 hown hK hP 0 rfl rfl 2 (by decide) f7 (fun _ h9 => h9) rfl dX5_isMeeting_233 ?_
          refine lv_iload_n hx hb dX5_isMeeting_236 rfl (lv_at hl 3 rfl) ?_
          refine va_lald hx hb hK hP 1 0 rfl rfl (vp_in_nI (show b < 256 by omega) (by omega)) dX5_isMeeting_237 ?_
          rw [show (nI b).toNatClampNeg = b from nI_clamp (show b < 2 ^ 31 by omega)]
          refine lv_aload_n hx hb dX5_isMeeting_238 rfl (lv_at hl 1 rfl) ?_
          refine va_get (D := (dC, dI)) (ci := 5) (v := .ref apy) (C := RX5) (T := TX5) (N := 25) hx hb hts hi5 hown hK hP 0 rfl rfl 3 (by decide) f13 (fun _ h9 => h9) rfl dX5_isMeeting_239 ?_
          refine lv_iload_n hx hb dX5_isMeeting_242 rfl (lv_at hl 3 rfl) ?_
          refine va_lald hx hb hK hP 2 0 rfl rfl (vp_in_nI (show b < 256 by omega) (by omega)) dX5_isMeeting_243 ?_
          rw [show (nI b).toNatClampNeg = b from nI_clamp (show b < 2 ^ 31 by omega)]
          refine lv_aload_n hx hb dX5_isMeeting_244 rfl (lv_at hl 1 rfl) ?_
          refine va_get (D := (dC, dI)) (ci := 5) (v := .ref apx) (C := RX5) (T := TX5) (N := 25) hx hb hts hi5 hown hK hP 0 rfl rfl 2 (by decide) f7 (fun _ h9 => h9) rfl dX5_isMeeting_245 ?_
          refine lv_iload hx hb dX5_isMeeting_248 (lv_at hl 5 rfl) ?_
          refine va_lald hx hb hK hP 1 0 rfl rfl (vp_in_nI (show h < 256 by omega) (by omega)) dX5_isMeeting_250 ?_
          rw [show (nI h).toNatClampNeg = h from nI_clamp (show h < 2 ^ 31 by omega)]
          refine lv_aload_n hx hb dX5_isMeeting_251 rfl (lv_at hl 1 rfl) ?_
          refine va_get (D := (dC, dI)) (ci := 5) (v := .ref apy) (C := RX5) (T := TX5) (N := 25) hx hb hts hi5 hown hK hP 0 rfl rfl 3 (by decide) f13 (fun _ h9 => h9) rfl dX5_isMeeting_252 ?_
          refine lv_iload hx hb dX5_isMeeting_255 (lv_at hl 5 rfl) ?_
          refine va_lald hx hb hK hP 2 0 rfl rfl (vp_in_nI (show h < 256 by omega) (by omega)) dX5_isMeeting_257 ?_
          rw [show (nI h).toNatClampNeg = h from nI_clamp (show h < 2 ^ 31 by omega)]
          refine kpSl (As := [.long (fpx a), .long (fpy a), .long (fpx b), .long (fpy b), .long (fpx h), .long (fpy h)]) (rest := []) (WC := []) (tyC := []) ⟨hx, hb, hml, hown, hts⟩ (tX5_turn l dC dI (fpx a) (fpy a) (fpx b) (fpy b) (fpx h) (fpy h)) (cwS 6 hts gX5_isMeeting_X5_turn rfl rfl rfl (by decide +kernel) ⟨Nat.le_of_ble_eq_true rfl, Nat.le_of_ble_eq_true rfl⟩) (kPick (isC := []) hP rfl) (hK.sub [] rfl) rfl rfl hl.1 (Nat.le_of_ble_eq_true rfl) dX5_isMeeting_258 ⟨Nat.le_of_ble_eq_true rfl, Nat.le_of_ble_eq_true rfl⟩ ?_
          refine kpSi (As := [.long (mTurn (fpx a) (fpy a) (fpx b) (fpy b) (fpx h) (fpy h))]) (rest := []) (WC := []) (tyC := []) ⟨hx, hb, hml, hown, hts⟩ (tX5_side l dC dI (mTurn (fpx a) (fpy a) (fpx b) (fpy b) (fpx h) (fpy h))) (cwS 1 hts gX5_isMeeting_X5_side rfl rfl rfl (by decide +kernel) ⟨Nat.le_of_ble_eq_true rfl, Nat.le_of_ble_eq_true rfl⟩) (kPick (isC := []) hP rfl) (hK.sub [] rfl) rfl rfl hl.1 (Nat.le_of_ble_eq_true rfl) dX5_isMeeting_261 ⟨Nat.le_of_ble_eq_true rfl, Nat.le_of_ble_eq_true rfl⟩ ?_
          refine lv_istore (lv' := [(6, .int (mSide (mTurn (fpx a) (fpy a) (fpx b) (fpy b) (fpx h) (fpy h)))), (5, .int (mSide (mTurn (fpx a) (fpy a) (fpx b) (fpy b) (fpx g) (fpy g)))), (0, .ref om), (1, .int (nI a)), (2, .int (nI b)), (3, .int (nI g)), (4, .int (nI h))]) hx hb dX5_isMeeting_264 hl (by decide) rfl (fun ls hl => ?_)
          refine lv_aload_n hx hb dX5_isMeeting_266 rfl (lv_at hl 2 rfl) ?_
          refine va_get (D := (dC, dI)) (ci := 5) (v := .ref apx) (C := RX5) (T := TX5) (N := 25) hx hb hts hi5 hown hK hP 0 rfl rfl 2 (by decide) f7 (fun _ h9 => h9) rfl dX5_isMeeting_267 ?_
          refine lv_iload_n hx hb dX5_isMeeting_270 rfl (lv_at hl 5 rfl) ?_
          refine va_lald hx hb hK hP 1 0 rfl rfl (vp_in_nI (show g < 256 by omega) (by omega)) dX5_isMeeting_271 ?_
          rw [show (nI g).toNatClampNeg = g from nI_clamp (show g < 2 ^ 31 by omega)]
          refine lv_aload_n hx hb dX5_isMeeting_272 rfl (lv_at hl 2 rfl) ?_
          refine va_get (D := (dC, dI)) (ci := 5) (v := .ref apy) (C := RX5) (T := TX5) (N := 25) hx hb hts hi5 hown hK hP 0 rfl rfl 3 (by decide) f13 (fun _ h9 => h9) rfl dX5_isMeeting_273 ?_
          refine lv_iload_n hx hb dX5_isMeeting_276 rfl (lv_at hl 5 rfl) ?_
          refine va_lald hx hb hK hP 2 0 rfl rfl (vp_in_nI (show g < 256 by omega) (by omega)) dX5_isMeeting_277 ?_
          rw [show (nI g).toNatClampNeg = g from nI_clamp (show g < 2 ^ 31 by omega)]
          refine lv_aload_n hx hb dX5_isMeeting_278 rfl (lv_at hl 2 rfl) ?_
          refine va_get (D := (dC, dI)) (ci := 5) (v := .ref apx) (C := RX5) (T := TX5) (N := 25) hx hb hts hi5 hown hK hP 0 rfl rfl 2 (by decide) f7 (fun _ h9 => h9) rfl dX5_isMeeting_279 ?_
          refine lv_iload hx hb dX5_isMeeting_282 (lv_at hl 6 rfl) ?_
          refine va_lald hx hb hK hP 1 0 rfl rfl (vp_in_nI (show h < 256 by omega) (by omega)) dX5_isMeeting_284 ?_
          rw [show (nI h).toNatClampNeg = h from nI_clamp (show h < 2 ^ 31 by omega)]
          refine lv_aload_n hx hb dX5_isMeeting_285 rfl (lv_at hl 2 rfl) ?_
          refine va_get (D := (dC, dI)) (ci := 5) (v := .ref apy) (C := RX5) (T := TX5) (N := 25) hx hb hts hi5 hown hK hP 0 rfl rfl 3 (by decide) f13 (fun _ h9 => h9) rfl dX5_isMeeting_286 ?_
          refine lv_iload hx hb dX5_isMeeting_289 (lv_at hl 6 rfl) ?_
          refine va_lald hx hb hK hP 2 0 rfl rfl (vp_in_nI (show h < 256 by omega) (by omega)) dX5_isMeeting_291 ?_
          rw [show (nI h).toNatClampNeg = h from nI_clamp (show h < 2 ^ 31 by omega)]
          refine lv_aload_n hx hb dX5_isMeeting_292 rfl (lv_at hl 2 rfl) ?_
          refine va_get (D := (dC, dI)) (ci := 5) (v := .ref apx) (C := RX5) (T := TX5) (N := 25) hx hb hts hi5 hown hK hP 0 rfl rfl 2 (by decide) f7 (fun _ h9 => h9) rfl dX5_isMeeting_293 ?_
          refine lv_iload_n hx hb dX5_isMeeting_296 rfl (lv_at hl 3 rfl) ?_
          refine va_lald hx hb hK hP 1 0 rfl rfl (vp_in_nI (show a < 256 by omega) (by omega)) dX5_isMeeting_297 ?_
          rw [show (nI a).toNatClampNeg = a from nI_clamp (show a < 2 ^ 31 by omega)]
          refine lv_aload_n hx hb dX5_isMeeting_298 rfl (lv_at hl 2 rfl) ?_
          refine va_get (D := (dC, dI)) (ci := 5) (v := .ref apy) (C := RX5) (T := TX5) (N := 25) hx hb hts hi5 hown hK hP 0 rfl rfl 3 (by decide) f13 (fun _ h9 => h9) rfl dX5_isMeeting_299 ?_
          refine lv_iload_n hx hb dX5_isMeeting_302 rfl (lv_at hl 3 rfl) ?_
          refine va_lald hx hb hK hP 2 0 rfl rfl (vp_in_nI (show a < 256 by omega) (by omega)) dX5_isMeeting_303 ?_
          rw [show (nI a).toNatClampNeg = a from nI_clamp (show a < 2 ^ 31 by omega)]
          refine kpSl (As := [.long (fpx g), .long (fpy g), .long (fpx h), .long (fpy h), .long (fpx a), .long (fpy a)]) (rest := []) (WC := []) (tyC := []) ⟨hx, hb, hml, hown, hts⟩ (tX5_turn l dC dI (fpx g) (fpy g) (fpx h) (fpy h) (fpx a) (fpy a)) (cwS 6 hts gX5_isMeeting_X5_turn rfl rfl rfl (by decide +kernel) ⟨Nat.le_of_ble_eq_true rfl, Nat.le_of_ble_eq_true rfl⟩) (kPick (isC := []) hP rfl) (hK.sub [] rfl) rfl rfl hl.1 (Nat.le_of_ble_eq_true rfl) dX5_isMeeting_304 ⟨Nat.le_of_ble_eq_true rfl, Nat.le_of_ble_eq_true rfl⟩ ?_
          refine kpSi (As := [.long (mTurn (fpx g) (fpy g) (fpx h) (fpy h) (fpx a) (fpy a))]) (rest := []) (WC := []) (tyC := []) ⟨hx, hb, hml, hown, hts⟩ (tX5_side l dC dI (mTurn (fpx g) (fpy g) (fpx h) (fpy h) (fpx a) (fpy a))) (cwS 1 hts gX5_isMeeting_X5_side rfl rfl rfl (by decide +kernel) ⟨Nat.le_of_ble_eq_true rfl, Nat.le_of_ble_eq_true rfl⟩) (kPick (isC := []) hP rfl) (hK.sub [] rfl) rfl rfl hl.1 (Nat.le_of_ble_eq_true rfl) dX5_isMeeting_307 ⟨Nat.le_of_ble_eq_true rfl, Nat.le_of_ble_eq_true rfl⟩ ?_
          refine lv_istore (lv' := [(7, .int (mSide (mTurn (fpx g) (fpy g) (fpx h) (fpy h) (fpx a) (fpy a)))), (6, .int (mSide (mTurn (fpx a) (fpy a) (fpx b) (fpy b) (fpx h) (fpy h)))), (5, .int (mSide (mTurn (fpx a) (fpy a) (fpx b) (fpy b) (fpx g) (fpy g)))), (0, .ref om), (1, .int (nI a)), (2, .int (nI b)), (3, .int (nI g)), (4, .int (nI h))]) hx hb dX5_isMeeting_310 hl (by decide) rfl (fun ls hl => ?_)
          refine lv_aload_n hx hb dX5_isMeeting_312 rfl (lv_at hl 3 rfl) ?_
          refine va_get (D := (dC, dI)) (ci := 5) (v := .ref apx) (C := RX5) (T := TX5) (N := 25) hx hb hts hi5 hown hK hP 0 rfl rfl 2 (by decide) f7 (fun _ h9 => h9) rfl dX5_isMeeting_313 ?_
          refine lv_iload_n hx hb dX5_isMeeting_316 rfl (lv_at hl 6 rfl) ?_
          refine va_lald hx hb hK hP 1 0 rfl rfl (vp_in_nI (show g < 256 by omega) (by omega)) dX5_isMeeting_317 ?_
          rw [show (nI g).toNatClampNeg = g from nI_clamp (show g < 2 ^ 31 by omega)]
          refine lv_aload_n hx hb dX5_isMeeting_318 rfl (lv_at hl 3 rfl) ?_
          refine va_get (D := (dC, dI)) (ci := 5) (v := .ref apy) (C := RX5) (T := TX5) (N := 25) hx hb hts hi5 hown hK hP 0 rfl rfl 3 (by decide) f13 (fun _ h9 => h9) rfl dX5_isMeeting_319 ?_
          refine lv_iload_n hx hb dX5_isMeeting_322 rfl (lv_at hl 6 rfl) ?_
          refine va_lald hx hb hK hP 2 0 rfl rfl (vp_in_nI (show g < 256 by omega) (by omega)) dX5_isMeeting_323 ?_
          rw [show (nI g).toNatClampNeg = g from nI_clamp (show g < 2 ^ 31 by omega)]
          refine lv_aload_n hx hb dX5_isMeeting_324 rfl (lv_at hl 3 rfl) ?_
          refine va_get (D := (dC, dI)) (ci := 5) (v := .ref apx) (C := RX5) (T := TX5) (N := 25) hx hb hts hi5 hown hK hP 0 rfl rfl 2 (by decide) f7 (fun _ h9 => h9) rfl dX5_isMeeting_325 ?_
          refine lv_iload hx hb dX5_isMeeting_328 (lv_at hl 7 rfl) ?_
          refine va_lald hx hb hK hP 1 0 rfl rfl (vp_in_nI (show h < 256 by omega) (by omega)) dX5_isMeeting_330 ?_
          rw [show (nI h).toNatClampNeg = h from nI_clamp (show h < 2 ^ 31 by omega)]
          refine lv_aload_n hx hb dX5_isMeeting_331 rfl (lv_at hl 3 rfl) ?_
          refine va_get (D := (dC, dI)) (ci := 5) (v := .ref apy) (C := RX5) (T := TX5) (N := 25) hx hb hts hi5 hown hK hP 0 rfl rfl 3 (by decide) f13 (fun _ h9 => h9) rfl dX5_isMeeting_332 ?_
          refine lv_iload hx hb dX5_isMeeting_335 (lv_at hl 7 rfl) ?_
          refine va_lald hx hb hK hP 2 0 rfl rfl (vp_in_nI (show h < 256 by omega) (by omega)) dX5_isMeeting_337 ?_
          rw [show (nI h).toNatClampNeg = h from nI_clamp (show h < 2 ^ 31 by omega)]
          refine lv_aload_n hx hb dX5_isMeeting_338 rfl (lv_at hl 3 rfl) ?_
          refine va_get (D := (dC, dI)) (ci := 5) (v := .ref apx) (C := RX5) (T := TX5) (N := 25) hx hb hts hi5 hown hK hP 0 rfl rfl 2 (by decide) f7 (fun _ h9 => h9) rfl dX5_isMeeting_339 ?_
          refine lv_iload_n hx hb dX5_isMeeting_342 rfl (lv_at hl 5 rfl) ?_
          refine va_lald hx hb hK hP 1 0 rfl rfl (vp_in_nI (show b < 256 by omega) (by omega)) dX5_isMeeting_343 ?_
          rw [show (nI b).toNatClampNeg = b from nI_clamp (show b < 2 ^ 31 by omega)]
          refine lv_aload_n hx hb dX5_isMeeting_344 rfl (lv_at hl 3 rfl) ?_
          refine va_get (D := (dC, dI)) (ci := 5) (v := .ref apy) (C := RX5) (T := TX5) (N := 25) hx hb hts hi5 hown hK hP 0 rfl rfl 3 (by decide) f13 (fun _ h9 => h9) rfl dX5_isMeeting_345 ?_
          refine lv_iload_n hx hb dX5_isMeeting_348 rfl (lv_at hl 5 rfl) ?_
          refine va_lald hx hb hK hP 2 0 rfl rfl (vp_in_nI (show b < 256 by omega) (by omega)) dX5_isMeeting_349 ?_
          rw [show (nI b).toNatClampNeg = b from nI_clamp (show b < 2 ^ 31 by omega)]
          refine kpSl (As := [.long (fpx g), .long (fpy g), .long (fpx h), .long (fpy h), .long (fpx b), .long (fpy b)]) (rest := []) (WC := []) (tyC := []) ⟨hx, hb, hml, hown, hts⟩ (tX5_turn l dC dI (fpx g) (fpy g) (fpx h) (fpy h) (fpx b) (fpy b)) (cwS 6 hts gX5_isMeeting_X5_turn rfl rfl rfl (by decide +kernel) ⟨Nat.le_of_ble_eq_true rfl, Nat.le_of_ble_eq_true rfl⟩) (kPick (isC := []) hP rfl) (hK.sub [] rfl) rfl rfl hl.1 (Nat.le_of_ble_eq_true rfl) dX5_isMeeting_350 ⟨Nat.le_of_ble_eq_true rfl, Nat.le_of_ble_eq_true rfl⟩ ?_
          refine kpSi (As := [.long (mTurn (fpx g) (fpy g) (fpx h) (fpy h) (fpx b) (fpy b))]) (rest := []) (WC := []) (tyC := []) ⟨hx, hb, hml, hown, hts⟩ (tX5_side l dC dI (mTurn (fpx g) (fpy g) (fpx h) (fpy h) (fpx b) (fpy b))) (cwS 1 hts gX5_isMeeting_X5_side rfl rfl rfl (by decide +kernel) ⟨Nat.le_of_ble_eq_true rfl, Nat.le_of_ble_eq_true rfl⟩) (kPick (isC := []) hP rfl) (hK.sub [] rfl) rfl rfl hl.1 (Nat.le_of_ble_eq_true rfl) dX5_isMeeting_353 ⟨Nat.le_of_ble_eq_true rfl, Nat.le_of_ble_eq_true rfl⟩ ?_
          refine lv_istore (lv' := [(8, .int (mSide (mTurn (fpx g) (fpy g) (fpx h) (fpy h) (fpx b) (fpy b)))), (7, .int (mSide (mTurn (fpx g) (fpy g) (fpx h) (fpy h) (fpx a) (fpy a)))), (6, .int (mSide (mTurn (fpx a) (fpy a) (fpx b) (fpy b) (fpx h) (fpy h)))), (5, .int (mSide (mTurn (fpx a) (fpy a) (fpx b) (fpy b) (fpx g) (fpy g)))), (0, .ref om), (1, .int (nI a)), (2, .int (nI b)), (3, .int (nI g)), (4, .int (nI h))]) hx hb dX5_isMeeting_356 hl (by decide) rfl (fun ls hl => ?_)
          refine lv_iload hx hb dX5_isMeeting_358 (lv_at hl 3 rfl) ?_
          refine lv_iload hx hb dX5_isMeeting_360 (lv_at hl 2 rfl) ?_
          refine lv_imul hx hb dX5_isMeeting_362 ?_
          refine lv_if_ge (tgt := 378) hx hb dX5_isMeeting_363 (by decide) (fun c363 => ?_) (fun c363 => ?_)
          · skip
            refine lv_iconst (v := (nI 0)) hx hb dX5_isMeeting_378 (by decide) ?_
            exact kRz hx hb hr hlocks dX5_isMeeting_379 (kp0 (fun h => h.elim c39 (fun h => h.elim c83 (fun h => h.elim c127 (fun h => h.elim c171 (fun h => absurd h.1 (Int32.not_lt.mpr c363)))))))
          · skip
            refine lv_iload hx hb dX5_isMeeting_366 (lv_at hl 1 rfl) ?_
            refine lv_iload hx hb dX5_isMeeting_368 (lv_at hl 0 rfl) ?_
            refine lv_imul hx hb dX5_isMeeting_370 ?_
            refine lv_if_ge (tgt := 378) hx hb dX5_isMeeting_371 (by decide) (fun c371 => ?_) (fun c371 => ?_)
            · skip
              refine lv_iconst (v := (nI 0)) hx hb dX5_isMeeting_378 (by decide) ?_
              exact kRz hx hb hr hlocks dX5_isMeeting_379 (kp0 (fun h => h.elim c39 (fun h => h.elim c83 (fun h => h.elim c127 (fun h => h.elim c171 (fun h => absurd h.2 (Int32.not_lt.mpr c371)))))))
            · skip
              refine lv_iconst (v := (nI 1)) hx hb dX5_isMeeting_374 (by decide) ?_
              refine lv_goto (tgt := 379) hx hb dX5_isMeeting_375 (by decide) ?_
              exact kRz hx hb hr hlocks dX5_isMeeting_379 (kp1 (Or.inr (Or.inr (Or.inr (Or.inr (⟨Int32.not_le.mp c363, Int32.not_le.mp c371⟩))))))
        · replace c171 := bI_n c171; replace c171 := pB_iff.mp c171
          refine lv_iconst (v := (nI 1)) hx hb dX5_isMeeting_174 (by decide) ?_
          exact kRz hx hb hr hlocks dX5_isMeeting_175 (kp1 (Or.inr (Or.inr (Or.inr (Or.inl c171)))))

def mX3 (fpx fpy : Nat → Int64) (tt a b g : Nat) : Prop := ∃ h, g ≤ h ∧ h < tt ∧ mMeet fpx fpy a b g h
def mX2 (fpx fpy : Nat → Int64) (ft tt a b : Nat) : Prop := ∃ g, ft ≤ g ∧ g < tt ∧ mX3 fpx fpy tt a b g
def mX1 (fpx fpy : Nat → Int64) (ts ft tt a : Nat) : Prop := ∃ b, a ≤ b ∧ b < ts ∧ mX2 fpx fpy ft tt a b
/-- whether a segment of one shape's points meets one of the other's -/
def mX (fpx fpy : Nat → Int64) (fs ts ft tt : Nat) : Prop := ∃ a, fs ≤ a ∧ a < ts ∧ mX1 fpx fpy ts ft tt a
set_option maxHeartbeats 4000000 in
set_option maxRecDepth 100000 in
theorem tX5_isCrossing (l : Launch) (dC : Nat → ClassId) (dI : Nat → Nat → Nat) (cJ cI cZ : ClassId) (om cd ns apx apy act nb asd amv asl apl asw nw aor nc aon atw aup alw nm : Nat) (mx my up lo rx ry : Int64) (fpx : Nat → Int64) (fpy : Nat → Int64) (ct : Nat → Nat) (s_ t_ : Nat) (hs : s_ < 16) (ht : t_ < 16) (hcs : ct s_ ≤ 16) (hct : ct t_ ≤ 16) : PMi l yX5_isCrossing wsX5_isCrossing { frames := 3, cells := 0, slots := 0, locals := 90 } [.ref om, .int (nI s_), .int (nI t_)] (dC, dI) [(om, .inr (5, [.int (nI cd), .int (nI ns), .ref apx, .ref apy, .ref act, .int (nI nb), .ref asd, .ref amv, .ref asl, .ref apl, .ref asw, .int (nI nw), .ref aor, .int (nI nc), .ref aon, .ref atw, .long mx, .long my, .ref aup, .ref alw, .int (nI nm), .long up, .long lo, .long rx, .long ry])), (apx, .inl (cJ, 256, .inr (.inl fpx))), (apy, .inl (cJ, 256, .inr (.inl fpy))), (act, .inl (cI, 16, .inl (nF ct)))] [(cJ, .long), (cI, .int), (cZ, .boolean)] (bI (pB (mX fpx fpy (16 * s_) (16 * s_ + ct s_) (16 * t_) (16 * t_ + ct t_)))) := by
  refine kOf (cc := cX5_isCrossing) (maxL := 7) (ret := (some .boolean)) (by decide) rfl (Nat.le_of_ble_eq_true rfl) ?_
  intro p e s m below meth c hx hb hr hml hts hown hlocks hB ls hl
  obtain ⟨hP, hK⟩ := hB
  have hl : lv_has ls 7 [(0, .ref om), (1, .int (nI s_)), (2, .int (nI t_))] := hl
  have hi5 : ∀ w ∈ u_ws RX5 TX5 25, w ∈ wsX5_isCrossing := by decide +kernel
  have f16 := hts (.fieldLink RX5 16 "SweptBoxesModel" "counts" "[I") (by decide +kernel)
  refine lv_bipush (v := (nI 16)) hx hb dX5_isCrossing_0 (by decide) ?_
  refine lv_iload_n hx hb dX5_isCrossing_2 rfl (lv_at hl 1 rfl) ?_
  refine lv_imul hx hb dX5_isCrossing_3 ?_
  rw [show (nI 16) * (nI s_) = (nI (16 * s_)) from pk_mul 16 s_]
  refine lv_istore_n (lv' := [(3, .int (nI (16 * s_))), (0, .ref om), (1, .int (nI s_)), (2, .int (nI t_))]) hx hb dX5_isCrossing_4 rfl hl (by decide) rfl (fun ls hl => ?_)
  refine kLoop (σ := Nat) (fun xz H locs ls => match xz with | a => (H = s.heap) ∧ (locs = []) ∧ (lv_has ls 7 [(0, .ref om), (1, .int (nI s_)), (2, .int (nI t_)), (3, .int (nI a))]) ∧ (16 * s_ ≤ a ∧ a ≤ (16 * s_ + ct s_) ∧ ∀ j, 16 * s_ ≤ j → j < a → ¬ mX1 fpx fpy (16 * s_ + ct s_) (16 * t_) (16 * t_ + ct t_) j)) (fun xz => match xz with | a => (16 * s_ + ct s_) - a) ?_ (16 * s_) ?_
  · rintro a H locs ls hI ih5
    obtain ⟨hHe, hLe, hl, hi5_⟩ := hI
    subst hHe
    subst hLe
    obtain ⟨hla, hua, hA⟩ := hi5_
    refine lv_iload_n hx hb dX5_isCrossing_5 rfl (lv_at hl 3 rfl) ?_
    refine lv_bipush (v := (nI 16)) hx hb dX5_isCrossing_6 (by decide) ?_
    refine lv_iload_n hx hb dX5_isCrossing_8 rfl (lv_at hl 1 rfl) ?_
    refine lv_imul hx hb dX5_isCrossing_9 ?_
    rw [show (nI 16) * (nI s_) = (nI (16 * s_)) from pk_mul 16 s_]
    refine lv_aload_n hx hb dX5_isCrossing_10 rfl (lv_at hl 0 rfl) ?_
    refine va_get (D := (dC, dI)) (ci := 5) (v := .ref act) (C := RX5) (T := TX5) (N := 25) hx hb hts hi5 hown hK hP 0 rfl rfl 4 (by decide) f16 (fun _ h9 => h9) rfl dX5_isCrossing_11 ?_
    refine lv_iload_n hx hb dX5_isCrossing_14 rfl (lv_at hl 1 rfl) ?_
    refine va_iald hx hb hK hP 3 1 rfl rfl (vp_in_nI (show s_ < 16 by omega) (by omega)) dX5_isCrossing_15 ?_
    rw [show (nI s_).toNatClampNeg = s_ from nI_clamp (show s_ < 2 ^ 31 by omega)]
    rw [show (nF ct) s_ = (nI (ct s_)) from rfl]
    refine lv_iadd hx hb dX5_isCrossing_16 ?_
    rw [show (nI (16 * s_)) + (nI (ct s_)) = (nI (((16 * s_)) + ((ct s_)))) from nI_add ((16 * s_)) ((ct s_))]
    refine lv_icmp_ge (tgt := 121) hx hb dX5_isCrossing_17 (by decide) (fun c17 => ?_) (fun c17 => ?_)
    · rw [nI_leI (by omega) (by omega)] at c17
      refine lv_iconst (v := (nI 0)) hx hb dX5_isCrossing_121 (by decide) ?_
      exact kRz hx hb hr hlocks dX5_isCrossing_122 (kp0 (fun ⟨w, w1, w2, w3⟩ => hA w w1 (by omega) w3))
    · rw [nI_leI (by omega) (by omega), Nat.not_le] at c17
      refine lv_iload_n hx hb dX5_isCrossing_20 rfl (lv_at hl 3 rfl) ?_
      refine lv_istore (lv' := [(4, .int (nI a)), (0, .ref om), (1, .int (nI s_)), (2, .int (nI t_)), (3, .int (nI a))]) hx hb dX5_isCrossing_21 hl (by decide) rfl (fun ls hl => ?_)
      refine kLoop (σ := Nat) (fun xz H locs ls => match xz with | b => (H = s.heap) ∧ (locs = []) ∧ (lv_has ls 7 [(0, .ref om), (1, .int (nI s_)), (2, .int (nI t_)), (3, .int (nI a)), (4, .int (nI b))]) ∧ (a ≤ b ∧ b ≤ (16 * s_ + ct s_) ∧ ∀ j, a ≤ j → j < b → ¬ mX2 fpx fpy (16 * t_) (16 * t_ + ct t_) a j)) (fun xz => match xz with | b => (16 * s_ + ct s_) - b) ?_ (a) ?_
      · rintro b H locs ls hI ih23
        obtain ⟨hHe, hLe, hl, hi23_⟩ := hI
        subst hHe
        subst hLe
        obtain ⟨hlb, hub, hB⟩ := hi23_
        refine lv_iload hx hb dX5_isCrossing_23 (lv_at hl 4 rfl) ?_
        refine lv_bipush (v := (nI 16)) hx hb dX5_isCrossing_25 (by decide) ?_
        refine lv_iload_n hx hb dX5_isCrossing_27 rfl (lv_at hl 1 rfl) ?_
        refine lv_imul hx hb dX5_isCrossing_28 ?_
        rw [show (nI 16) * (nI s_) = (nI (16 * s_)) from pk_mul 16 s_]
        refine lv_aload_n hx hb dX5_isCrossing_29 rfl (lv_at hl 0 rfl) ?_
        refine va_get (D := (dC, dI)) (ci := 5) (v := .ref act) (C := RX5) (T := TX5) (N := 25) hx hb hts hi5 hown hK hP 0 rfl rfl 4 (by decide) f16 (fun _ h9 => h9) rfl dX5_isCrossing_30 ?_
        refine lv_iload_n hx hb dX5_isCrossing_33 rfl (lv_at hl 1 rfl) ?_
        refine va_iald hx hb hK hP 3 1 rfl rfl (vp_in_nI (show s_ < 16 by omega) (by omega)) dX5_isCrossing_34 ?_
        rw [show (nI s_).toNatClampNeg = s_ from nI_clamp (show s_ < 2 ^ 31 by omega)]
        rw [show (nF ct) s_ = (nI (ct s_)) from rfl]
        refine lv_iadd hx hb dX5_isCrossing_35 ?_
        rw [show (nI (16 * s_)) + (nI (ct s_)) = (nI (((16 * s_)) + ((ct s_)))) from nI_add ((16 * s_)) ((ct s_))]
        refine lv_icmp_ge (tgt := 115) hx hb dX5_isCrossing_36 (by decide) (fun c36 => ?_) (fun c36 => ?_)
        · rw [nI_leI (by omega) (by omega)] at c36
          refine lv_iinc (v := (nI (a + 1))) (lv' := [(3, .int (nI (a + 1))), (0, .ref om), (1, .int (nI s_)), (2, .int (nI t_)), (4, .int (nI b))]) hx hb dX5_isCrossing_115 hl (k := 3) rfl (show (nI a) + Int32.ofInt 1 = nI (a + 1) from nI_add a 1) (by decide) rfl (fun ls hl => ?_)
          refine lv_goto (tgt := 5) hx hb dX5_isCrossing_118 (by decide) ?_
          exact ih5 (a + 1) _ _ _ ⟨rfl, rfl, lv_sub hl [1, 2, 3, 0] rfl, ⟨by omega, by omega, fun j h1 h2 => by rcases Nat.lt_or_ge j a with hq | hq; exact hA j h1 hq; rw [show j = a by omega]; exact (fun ⟨w, w1, w2, w3⟩ => hB w w1 (by omega) w3)⟩⟩ (by simp only []; omega)
        · rw [nI_leI (by omega) (by omega), Nat.not_le] at c36
          refine lv_bipush (v := (nI 16)) hx hb dX5_isCrossing_39 (by decide) ?_
          refine lv_iload_n hx hb dX5_isCrossing_41 rfl (lv_at hl 2 rfl) ?_
          refine lv_imul hx hb dX5_isCrossing_42 ?_
          rw [show (nI 16) * (nI t_) = (nI (16 * t_)) from pk_mul 16 t_]
          refine lv_istore (lv' := [(5, .int (nI (16 * t_))), (0, .ref om), (1, .int (nI s_)), (2, .int (nI t_)), (3, .int (nI a)), (4, .int (nI b))]) hx hb dX5_isCrossing_43 hl (by decide) rfl (fun ls hl => ?_)
          refine kLoop (σ := Nat) (fun xz H locs ls => match xz with | g => (H = s.heap) ∧ (locs = []) ∧ (lv_has ls 7 [(0, .ref om), (1, .int (nI s_)), (2, .int (nI t_)), (3, .int (nI a)), (4, .int (nI b)), (5, .int (nI g))]) ∧ (16 * t_ ≤ g ∧ g ≤ (16 * t_ + ct t_) ∧ ∀ j, 16 * t_ ≤ j → j < g → ¬ mX3 fpx fpy (16 * t_ + ct t_) a b j)) (fun xz => match xz with | g => (16 * t_ + ct t_) - g) ?_ (16 * t_) ?_
          · rintro g H locs ls hI ih45
            obtain ⟨hHe, hLe, hl, hi45_⟩ := hI
            subst hHe
            subst hLe
            obtain ⟨hlg, hug, hC⟩ := hi45_
            refine lv_iload hx hb dX5_isCrossing_45 (lv_at hl 5 rfl) ?_
            refine lv_bipush (v := (nI 16)) hx hb dX5_isCrossing_47 (by decide) ?_
            refine lv_iload_n hx hb dX5_isCrossing_49 rfl (lv_at hl 2 rfl) ?_
            refine lv_imul hx hb dX5_isCrossing_50 ?_
            rw [show (nI 16) * (nI t_) = (nI (16 * t_)) from pk_mul 16 t_]
            refine lv_aload_n hx hb dX5_isCrossing_51 rfl (lv_at hl 0 rfl) ?_
            refine va_get (D := (dC, dI)) (ci := 5) (v := .ref act) (C := RX5) (T := TX5) (N := 25) hx hb hts hi5 hown hK hP 0 rfl rfl 4 (by decide) f16 (fun _ h9 => h9) rfl dX5_isCrossing_52 ?_
            refine lv_iload_n hx hb dX5_isCrossing_55 rfl (lv_at hl 2 rfl) ?_
            refine va_iald hx hb hK hP 3 1 rfl rfl (vp_in_nI (show t_ < 16 by omega) (by omega)) dX5_isCrossing_56 ?_
            rw [show (nI t_).toNatClampNeg = t_ from nI_clamp (show t_ < 2 ^ 31 by omega)]
            rw [show (nF ct) t_ = (nI (ct t_)) from rfl]
            refine lv_iadd hx hb dX5_isCrossing_57 ?_
            rw [show (nI (16 * t_)) + (nI (ct t_)) = (nI (((16 * t_)) + ((ct t_)))) from nI_add ((16 * t_)) ((ct t_))]
            refine lv_icmp_ge (tgt := 109) hx hb dX5_isCrossing_58 (by decide) (fun c58 => ?_) (fun c58 => ?_)
            · rw [nI_leI (by omega) (by omega)] at c58
              refine lv_iinc (v := (nI (b + 1))) (lv' := [(4, .int (nI (b + 1))), (0, .ref om), (1, .int (nI s_)), (2, .int (nI t_)), (3, .int (nI a)), (5, .int (nI g))]) hx hb dX5_isCrossing_109 hl (k := 4) rfl (show (nI b) + Int32.ofInt 1 = nI (b + 1) from nI_add b 1) (by decide) rfl (fun ls hl => ?_)
              refine lv_goto (tgt := 23) hx hb dX5_isCrossing_112 (by decide) ?_
              exact ih23 (b + 1) _ _ _ ⟨rfl, rfl, lv_sub hl [1, 2, 3, 4, 0] rfl, ⟨by omega, by omega, fun j h1 h2 => by rcases Nat.lt_or_ge j b with hq | hq; exact hB j h1 hq; rw [show j = b by omega]; exact (fun ⟨w, w1, w2, w3⟩ => hC w w1 (by omega) w3)⟩⟩ (by simp only []; omega)
            · rw [nI_leI (by omega) (by omega), Nat.not_le] at c58
              refine lv_iload hx hb dX5_isCrossing_61 (lv_at hl 5 rfl) ?_
              refine lv_istore (lv' := [(6, .int (nI g)), (0, .ref om), (1, .int (nI s_)), (2, .int (nI t_)), (3, .int (nI a)), (4, .int (nI b)), (5, .int (nI g))]) hx hb dX5_isCrossing_63 hl (by decide) rfl (fun ls hl => ?_)
              refine kLoop (σ := Nat) (fun xz H locs ls => match xz with | h => (H = s.heap) ∧ (locs = []) ∧ (lv_has ls 7 [(0, .ref om), (1, .int (nI s_)), (2, .int (nI t_)), (3, .int (nI a)), (4, .int (nI b)), (5, .int (nI g)), (6, .int (nI h))]) ∧ (g ≤ h ∧ h ≤ (16 * t_ + ct t_) ∧ ∀ j, g ≤ j → j < h → ¬ mMeet fpx fpy a b g j)) (fun xz => match xz with | h => (16 * t_ + ct t_) - h) ?_ (g) ?_
              · rintro h H locs ls hI ih65
                obtain ⟨hHe, hLe, hl, hi65_⟩ := hI
                subst hHe
                subst hLe
                obtain ⟨hlh, huh, hE⟩ := hi65_
                refine lv_iload hx hb dX5_isCrossing_65 (lv_at hl 6 rfl) ?_
                refine lv_bipush (v := (nI 16)) hx hb dX5_isCrossing_67 (by decide) ?_
                refine lv_iload_n hx hb dX5_isCrossing_69 rfl (lv_at hl 2 rfl) ?_
                refine lv_imul hx hb dX5_isCrossing_70 ?_
                rw [show (nI 16) * (nI t_) = (nI (16 * t_)) from pk_mul 16 t_]
                refine lv_aload_n hx hb dX5_isCrossing_71 rfl (lv_at hl 0 rfl) ?_
                refine va_get (D := (dC, dI)) (ci := 5) (v := .ref act) (C := RX5) (T := TX5) (N := 25) hx hb hts hi5 hown hK hP 0 rfl rfl 4 (by decide) f16 (fun _ h9 => h9) rfl dX5_isCrossing_72 ?_
                refine lv_iload_n hx hb dX5_isCrossing_75 rfl (lv_at hl 2 rfl) ?_
                refine va_iald hx hb hK hP 3 1 rfl rfl (vp_in_nI (show t_ < 16 by omega) (by omega)) dX5_isCrossing_76 ?_
                rw [show (nI t_).toNatClampNeg = t_ from nI_clamp (show t_ < 2 ^ 31 by omega)]
                rw [show (nF ct) t_ = (nI (ct t_)) from rfl]
                refine lv_iadd hx hb dX5_isCrossing_77 ?_
                rw [show (nI (16 * t_)) + (nI (ct t_)) = (nI (((16 * t_)) + ((ct t_)))) from nI_add ((16 * t_)) ((ct t_))]
                refine lv_icmp_ge (tgt := 103) hx hb dX5_isCrossing_78 (by decide) (fun c78 => ?_) (fun c78 => ?_)
                · rw [nI_leI (by omega) (by omega)] at c78
                  refine lv_iinc (v := (nI (g + 1))) (lv' := [(5, .int (nI (g + 1))), (0, .ref om), (1, .int (nI s_)), (2, .int (nI t_)), (3, .int (nI a)), (4, .int (nI b)), (6, .int (nI h))]) hx hb dX5_isCrossing_103 hl (k := 5) rfl (show (nI g) + Int32.ofInt 1 = nI (g + 1) from nI_add g 1) (by decide) rfl (fun ls hl => ?_)
                  refine lv_goto (tgt := 45) hx hb dX5_isCrossing_106 (by decide) ?_
                  exact ih45 (g + 1) _ _ _ ⟨rfl, rfl, lv_sub hl [1, 2, 3, 4, 5, 0] rfl, ⟨by omega, by omega, fun j h1 h2 => by rcases Nat.lt_or_ge j g with hq | hq; exact hC j h1 hq; rw [show j = g by omega]; exact (fun ⟨w, w1, w2, w3⟩ => hE w w1 (by omega) w3)⟩⟩ (by simp only []; omega)
                · rw [nI_leI (by omega) (by omega), Nat.not_le] at c78
                  refine lv_aload_n hx hb dX5_isCrossing_81 rfl (lv_at hl 0 rfl) ?_
                  refine lv_iload_n hx hb dX5_isCrossing_82 rfl (lv_at hl 3 rfl) ?_
                  refine lv_iload hx hb dX5_isCrossing_83 (lv_at hl 4 rfl) ?_
                  refine lv_iload hx hb dX5_isCrossing_85 (lv_at hl 5 rfl) ?_
                  refine lv_iload hx hb dX5_isCrossing_87 (lv_at hl 6 rfl) ?_
                  refine kpVi (q0 := 0) (ci := 5) (As := [.int (nI a), .int (nI b), .int (nI g), .int (nI h)]) (rest := []) (WC := [(om, .inr (5, [.int (nI cd), .int (nI ns), .ref apx, .ref apy, .ref act, .int (nI nb), .ref asd, .ref amv, .ref asl, .ref apl, .ref asw, .int (nI nw), .ref aor, .int (nI nc), .ref aon, .ref atw, .long mx, .long my, .ref aup, .ref alw, .int (nI nm), .long up, .long lo, .long rx, .long ry])), (apx, .inl (cJ, 256, .inr (.inl fpx))), (apy, .inl (cJ, 256, .inr (.inl fpy)))]) (tyC := [(cJ, .long), (cI, .int), (cZ, .boolean)]) ⟨hx, hb, hml, hown, hts⟩ (tX5_isMeeting l dC dI cJ cI cZ om cd ns apx apy act nb asd amv asl apl asw nw aor nc aon atw aup alw nm mx my up lo rx ry fpx fpy a b g h (by omega) (by omega) (by omega) (by omega)) (cwV 4 hts gX5_isCrossing_X5_isMeeting rfl rfl rfl (by decide +kernel) ⟨Nat.le_of_ble_eq_true rfl, Nat.le_of_ble_eq_true rfl⟩) (kPick (isC := [0, 1, 2]) hP rfl) (hK.sub [0, 1, 2] rfl) rfl rfl rfl rfl hl.1 (Nat.le_of_ble_eq_true rfl) dX5_isCrossing_89 ⟨Nat.le_of_ble_eq_true rfl, Nat.le_of_ble_eq_true rfl⟩ ?_
                  refine lv_if_eq (tgt := 97) hx hb dX5_isCrossing_92 (by decide) (fun c92 => ?_) (fun c92 => ?_)
                  · replace c92 := bI_0 c92; replace c92 := pB_not c92
                    refine lv_iinc (v := (nI (h + 1))) (lv' := [(6, .int (nI (h + 1))), (0, .ref om), (1, .int (nI s_)), (2, .int (nI t_)), (3, .int (nI a)), (4, .int (nI b)), (5, .int (nI g))]) hx hb dX5_isCrossing_97 hl (k := 6) rfl (show (nI h) + Int32.ofInt 1 = nI (h + 1) from nI_add h 1) (by decide) rfl (fun ls hl => ?_)
                    refine lv_goto (tgt := 65) hx hb dX5_isCrossing_100 (by decide) ?_
                    exact ih65 (h + 1) _ _ _ ⟨rfl, rfl, lv_sub hl [1, 2, 3, 4, 5, 6, 0] rfl, ⟨by omega, by omega, fun j h1 h2 => by rcases Nat.lt_or_ge j h with hq | hq; exact hE j h1 hq; rw [show j = h by omega]; exact c92⟩⟩ (by simp only []; omega)
                  · replace c92 := bI_n c92; replace c92 := pB_iff.mp c92
                    refine lv_iconst (v := (nI 1)) hx hb dX5_isCrossing_95 (by decide) ?_
                    exact kRz hx hb hr hlocks dX5_isCrossing_96 (kp1 ⟨a, hla, c17, b, hlb, c36, g, hlg, c58, h, hlh, c78, c92⟩)
              · exact ⟨rfl, rfl, lv_sub hl [1, 2, 3, 4, 5, 6, 0] rfl, ⟨Nat.le_refl _, by omega, fun j h1 h2 => absurd h2 (by omega)⟩⟩
          · exact ⟨rfl, rfl, lv_sub hl [1, 2, 3, 4, 5, 0] rfl, ⟨Nat.le_refl _, by omega, fun j h1 h2 => absurd h2 (by omega)⟩⟩
      · exact ⟨rfl, rfl, lv_sub hl [1, 2, 3, 4, 0] rfl, ⟨Nat.le_refl _, by omega, fun j h1 h2 => absurd h2 (by omega)⟩⟩
  · exact ⟨rfl, rfl, lv_sub hl [1, 2, 3, 0] rfl, ⟨Nat.le_refl _, by omega, fun j h1 h2 => absurd h2 (by omega)⟩⟩

set_option maxHeartbeats 4000000 in
set_option maxRecDepth 100000 in
theorem tX5_apart_e (l : Launch) (dC : Nat → ClassId) (dI : Nat → Nat → Nat) (cJ cI cZ : ClassId) (om cd ns apx apy act nb asd amv asl apl asw nw aor nc aon atw aup alw nm : Nat) (mx my up lo rx ry : Int64) (fpx : Nat → Int64) (fpy : Nat → Int64) (ct : Nat → Nat) (si sj : Int32) (hbad : ¬ ((0 ≤ si ∧ si < nI ns) ∧ (0 ≤ sj ∧ sj < nI ns))) : MMi l yX5_apart wsX5_apart { frames := 1, cells := 0, slots := 0, locals := 21 } [.ref om, .int si, .int sj] (dC, dI) [(om, .inr (5, [.int (nI cd), .int (nI ns), .ref apx, .ref apy, .ref act, .int (nI nb), .ref asd, .ref amv, .ref asl, .ref apl, .ref asw, .int (nI nw), .ref aor, .int (nI nc), .ref aon, .ref atw, .long mx, .long my, .ref aup, .ref alw, .int (nI nm), .long up, .long lo, .long rx, .long ry])), (apx, .inl (cJ, 256, .inr (.inl fpx))), (apy, .inl (cJ, 256, .inr (.inl fpy))), (act, .inl (cI, 16, .inl (nF ct)))] [(om, .inr (5, [.int (nI 1), .int (nI ns), .ref apx, .ref apy, .ref act, .int (nI nb), .ref asd, .ref amv, .ref asl, .ref apl, .ref asw, .int (nI nw), .ref aor, .int (nI nc), .ref aon, .ref atw, .long mx, .long my, .ref aup, .ref alw, .int (nI nm), .long up, .long lo, .long rx, .long ry])), (apx, .inl (cJ, 256, .inr (.inl fpx))), (apy, .inl (cJ, 256, .inr (.inl fpy))), (act, .inl (cI, 16, .inl (nF ct)))] [(cJ, .long), (cI, .int), (cZ, .boolean)] (bI false) := by
  intro sz
  refine kOf (cc := cX5_apart) (maxL := 4) (ret := (some .boolean)) (by decide) rfl (Nat.le_of_ble_eq_true rfl) ?_
  intro p e s m below meth c hx hb hr hml hts hown hlocks hB ls hl
  obtain ⟨hsz, hP, hK, hD0⟩ := hB
  subst hsz
  have hD := hD0.self (sz := s.heap.size)
  generalize hAe : va_A [(om, .inr (5, [.int (nI cd), .int (nI ns), .ref apx, .ref apy, .ref act, .int (nI nb), .ref asd, .ref amv, .ref asl, .ref apl, .ref asw, .int (nI nw), .ref aor, .int (nI nc), .ref aon, .ref atw, .long mx, .long my, .ref aup, .ref alw, .int (nI nm), .long up, .long lo, .long rx, .long ry])), (apx, .inl (cJ, 256, .inr (.inl fpx))), (apy, .inl (cJ, 256, .inr (.inl fpy))), (act, .inl (cI, 16, .inl (nF ct)))] s.heap.size = A at hD ⊢
  have hA : ∀ q : Nat, s.heap.size ≤ q → A q := fun q h => by rw [← hAe]; exact Or.inr h
  have hS : va_S A s.heap s.heap [] := va_S.rf
  have hl : lv_has ls 4 [(0, .ref om), (1, .int si), (2, .int sj)] := hl
  have hi5 : ∀ w ∈ u_ws RX5 TX5 25, w ∈ wsX5_apart := by decide +kernel
  have f54 := hts (.fieldLink RX5 54 "SweptBoxesModel" "code" "I") (by decide +kernel)
  refine lv_aload_n hx hb dX5_apart_0 rfl (lv_at hl 0 rfl) ?_
  refine lv_aload_n hx hb dX5_apart_1 rfl (lv_at hl 0 rfl) ?_
  refine lv_iload_n hx hb dX5_apart_2 rfl (lv_at hl 1 rfl) ?_
  refine kpVi (q0 := 0) (ci := 5) (As := [.int si]) (rest := [.ref om]) (WC := [(om, .inr (5, [.int (nI cd), .int (nI ns), .ref apx, .ref apy, .ref act, .int (nI nb), .ref asd, .ref amv, .ref asl, .ref apl, .ref asw, .int (nI nw), .ref aor, .int (nI nc), .ref aon, .ref atw, .long mx, .long my, .ref aup, .ref alw, .int (nI nm), .long up, .long lo, .long rx, .long ry]))]) (tyC := [(cJ, .long), (cI, .int), (cZ, .boolean)]) ⟨hx, hb, hml, hown, hts⟩ (tX5_isShape l dC dI cJ cI cZ om cd ns apx apy act nb asd amv asl apl asw nw aor nc aon atw aup alw nm mx my up lo rx ry si) (cwV 1 hts gX5_apart_X5_isShape rfl rfl rfl (by decide +kernel) ⟨Nat.le_of_ble_eq_true rfl, Nat.le_of_ble_eq_true rfl⟩) (kPick (isC := [0]) hP rfl) (hK.sub [0, 1, 2] rfl) rfl rfl rfl rfl hl.1 (Nat.le_of_ble_eq_true rfl) dX5_apart_3 ⟨Nat.le_of_ble_eq_true rfl, Nat.le_of_ble_eq_true rfl⟩ ?_
  refine lv_if_eq (tgt := 21) hx hb dX5_apart_6 (by decide) (fun c6 => ?_) (fun c6 => ?_)
  · replace c6 := bI_0 c6; replace c6 := of_decide_eq_false c6
    refine lv_iconst (v := (nI 1)) hx hb dX5_apart_21 (by decide) ?_
    refine va_put (D := (dC, dI)) (ci := 5) (v := .int (nI 1)) (ty := .int) (C := RX5) (T := TX5) (N := 25) hx hb hts hi5 tyX5 tyX5_ok nmX5 hown hK hP hD hS 0 rfl rfl 0 (by decide) f54 (fun _ h9 => h9) rfl (by decide +kernel) rfl rfl (Nat.le_of_ble_eq_true rfl) dX5_apart_22 (fun H locs hP hD hS => ?_)
    have hP : va_P (dC, dI) vwCl [(om, .inr (5, [.int (nI 1), .int (nI ns), .ref apx, .ref apy, .ref act, .int (nI nb), .ref asd, .ref amv, .ref asl, .ref apl, .ref asw, .int (nI nw), .ref aor, .int (nI nc), .ref aon, .ref atw, .long mx, .long my, .ref aup, .ref alw, .int (nI nm), .long up, .long lo, .long rx, .long ry])), (apx, .inl (cJ, 256, .inr (.inl fpx))), (apy, .inl (cJ, 256, .inr (.inl fpy))), (act, .inl (cI, 16, .inl (nF ct)))] H := hP
    have hD : va_D A [(om, .inr (5, [.int (nI 1), .int (nI ns), .ref apx, .ref apy, .ref act, .int (nI nb), .ref asd, .ref amv, .ref asl, .ref apl, .ref asw, .int (nI nw), .ref aor, .int (nI nc), .ref aon, .ref atw, .long mx, .long my, .ref aup, .ref alw, .int (nI nm), .long up, .long lo, .long rx, .long ry])), (apx, .inl (cJ, 256, .inr (.inl fpx))), (apy, .inl (cJ, 256, .inr (.inl fpy))), (act, .inl (cI, 16, .inl (nF ct)))] := hD
    refine lv_aload_n hx hb dX5_apart_25 rfl (lv_at hl 0 rfl) ?_
    refine va_get (D := (dC, dI)) (ci := 5) (v := .int (nI 1)) (C := RX5) (T := TX5) (N := 25) hx hb hts hi5 hown hK hP 0 rfl rfl 0 (by decide) f54 (fun _ h9 => h9) rfl dX5_apart_26 ?_
    refine lv_if_gt (tgt := 50) hx hb dX5_apart_29 (by decide) (fun c29 => ?_) (fun c29 => ?_)
    · rw [← nI_0, nI_ltI (by omega) (by omega)] at c29
      refine lv_aload_n hx hb dX5_apart_50 rfl (lv_at hl 0 rfl) ?_
      refine va_get (D := (dC, dI)) (ci := 5) (v := .int (nI 1)) (C := RX5) (T := TX5) (N := 25) hx hb hts hi5 hown hK hP 0 rfl rfl 0 (by decide) f54 (fun _ h9 => h9) rfl dX5_apart_51 ?_
      refine lv_if_ne (tgt := 61) hx hb dX5_apart_54 (by decide) (fun c54 => ?_) (fun c54 => ?_)
      · rw [← nI_0, nI_eq (by omega) (by omega)] at c54
        refine lv_iconst (v := (nI 0)) hx hb dX5_apart_61 (by decide) ?_
        exact kEz hx hb hr hlocks hP hK hD hS dX5_apart_62 rfl
      · skip
        exact absurd c54 (by decide)
    · skip
      exact absurd c29 (by decide)
  · replace c6 := bI_n c6; replace c6 := of_decide_eq_true c6
    refine lv_aload_n hx hb dX5_apart_9 rfl (lv_at hl 0 rfl) ?_
    refine lv_iload_n hx hb dX5_apart_10 rfl (lv_at hl 2 rfl) ?_
    refine kpVi (q0 := 0) (ci := 5) (As := [.int sj]) (rest := [.ref om]) (WC := [(om, .inr (5, [.int (nI cd), .int (nI ns), .ref apx, .ref apy, .ref act, .int (nI nb), .ref asd, .ref amv, .ref asl, .ref apl, .ref asw, .int (nI nw), .ref aor, .int (nI nc), .ref aon, .ref atw, .long mx, .long my, .ref aup, .ref alw, .int (nI nm), .long up, .long lo, .long rx, .long ry]))]) (tyC := [(cJ, .long), (cI, .int), (cZ, .boolean)]) ⟨hx, hb, hml, hown, hts⟩ (tX5_isShape l dC dI cJ cI cZ om cd ns apx apy act nb asd amv asl apl asw nw aor nc aon atw aup alw nm mx my up lo rx ry sj) (cwV 1 hts gX5_apart_X5_isShape rfl rfl rfl (by decide +kernel) ⟨Nat.le_of_ble_eq_true rfl, Nat.le_of_ble_eq_true rfl⟩) (kPick (isC := [0]) hP rfl) (hK.sub [0, 1, 2] rfl) rfl rfl rfl rfl hl.1 (Nat.le_of_ble_eq_true rfl) dX5_apart_11 ⟨Nat.le_of_ble_eq_true rfl, Nat.le_of_ble_eq_true rfl⟩ ?_
    refine lv_if_eq (tgt := 21) hx hb dX5_apart_14 (by decide) (fun c14 => ?_) (fun c14 => ?_)
    · replace c14 := bI_0 c14; replace c14 := of_decide_eq_false c14
      refine lv_iconst (v := (nI 1)) hx hb dX5_apart_21 (by decide) ?_
      refine va_put (D := (dC, dI)) (ci := 5) (v := .int (nI 1)) (ty := .int) (C := RX5) (T := TX5) (N := 25) hx hb hts hi5 tyX5 tyX5_ok nmX5 hown hK hP hD hS 0 rfl rfl 0 (by decide) f54 (fun _ h9 => h9) rfl (by decide +kernel) rfl rfl (Nat.le_of_ble_eq_true rfl) dX5_apart_22 (fun H locs hP hD hS => ?_)
      have hP : va_P (dC, dI) vwCl [(om, .inr (5, [.int (nI 1), .int (nI ns), .ref apx, .ref apy, .ref act, .int (nI nb), .ref asd, .ref amv, .ref asl, .ref apl, .ref asw, .int (nI nw), .ref aor, .int (nI nc), .ref aon, .ref atw, .long mx, .long my, .ref aup, .ref alw, .int (nI nm), .long up, .long lo, .long rx, .long ry])), (apx, .inl (cJ, 256, .inr (.inl fpx))), (apy, .inl (cJ, 256, .inr (.inl fpy))), (act, .inl (cI, 16, .inl (nF ct)))] H := hP
      have hD : va_D A [(om, .inr (5, [.int (nI 1), .int (nI ns), .ref apx, .ref apy, .ref act, .int (nI nb), .ref asd, .ref amv, .ref asl, .ref apl, .ref asw, .int (nI nw), .ref aor, .int (nI nc), .ref aon, .ref atw, .long mx, .long my, .ref aup, .ref alw, .int (nI nm), .long up, .long lo, .long rx, .long ry])), (apx, .inl (cJ, 256, .inr (.inl fpx))), (apy, .inl (cJ, 256, .inr (.inl fpy))), (act, .inl (cI, 16, .inl (nF ct)))] := hD
      refine lv_aload_n hx hb dX5_apart_25 rfl (lv_at hl 0 rfl) ?_
      refine va_get (D := (dC, dI)) (ci := 5) (v := .int (nI 1)) (C := RX5) (T := TX5) (N := 25) hx hb hts hi5 hown hK hP 0 rfl rfl 0 (by decide) f54 (fun _ h9 => h9) rfl dX5_apart_26 ?_
      refine lv_if_gt (tgt := 50) hx hb dX5_apart_29 (by decide) (fun c29 => ?_) (fun c29 => ?_)
      · rw [← nI_0, nI_ltI (by omega) (by omega)] at c29
        refine lv_aload_n hx hb dX5_apart_50 rfl (lv_at hl 0 rfl) ?_
        refine va_get (D := (dC, dI)) (ci := 5) (v := .int (nI 1)) (C := RX5) (T := TX5) (N := 25) hx hb hts hi5 hown hK hP 0 rfl rfl 0 (by decide) f54 (fun _ h9 => h9) rfl dX5_apart_51 ?_
        refine lv_if_ne (tgt := 61) hx hb dX5_apart_54 (by decide) (fun c54 => ?_) (fun c54 => ?_)
        · rw [← nI_0, nI_eq (by omega) (by omega)] at c54
          refine lv_iconst (v := (nI 0)) hx hb dX5_apart_61 (by decide) ?_
          exact kEz hx hb hr hlocks hP hK hD hS dX5_apart_62 rfl
        · skip
          exact absurd c54 (by decide)
      · skip
        exact absurd c29 (by decide)
    · replace c14 := bI_n c14; replace c14 := of_decide_eq_true c14
      exact absurd ⟨c6, c14⟩ hbad

set_option maxHeartbeats 4000000 in
set_option maxRecDepth 100000 in
theorem tX5_apart_z (l : Launch) (dC : Nat → ClassId) (dI : Nat → Nat → Nat) (cJ cI cZ : ClassId) (om cd ns apx apy act nb asd amv asl apl asw nw aor nc aon atw aup alw nm : Nat) (mx my up lo rx ry : Int64) (fpx : Nat → Int64) (fpy : Nat → Int64) (ct : Nat → Nat) (s_ t_ : Nat) (hs : s_ < ns) (ht : t_ < ns) (hn : ns ≤ 16) (hcs : ct s_ ≤ 16) (hct : ct t_ ≤ 16) (hz : ct s_ = 0 ∨ ct t_ = 0) : MMi l yX5_apart wsX5_apart { frames := 1, cells := 0, slots := 0, locals := 21 } [.ref om, .int (nI s_), .int (nI t_)] (dC, dI) [(om, .inr (5, [.int (nI cd), .int (nI ns), .ref apx, .ref apy, .ref act, .int (nI nb), .ref asd, .ref amv, .ref asl, .ref apl, .ref asw, .int (nI nw), .ref aor, .int (nI nc), .ref aon, .ref atw, .long mx, .long my, .ref aup, .ref alw, .int (nI nm), .long up, .long lo, .long rx, .long ry])), (apx, .inl (cJ, 256, .inr (.inl fpx))), (apy, .inl (cJ, 256, .inr (.inl fpy))), (act, .inl (cI, 16, .inl (nF ct)))] [(om, .inr (5, [.int (nI 0), .int (nI ns), .ref apx, .ref apy, .ref act, .int (nI nb), .ref asd, .ref amv, .ref asl, .ref apl, .ref asw, .int (nI nw), .ref aor, .int (nI nc), .ref aon, .ref atw, .long mx, .long my, .ref aup, .ref alw, .int (nI nm), .long up, .long lo, .long rx, .long ry])), (apx, .inl (cJ, 256, .inr (.inl fpx))), (apy, .inl (cJ, 256, .inr (.inl fpy))), (act, .inl (cI, 16, .inl (nF ct)))] [(cJ, .long), (cI, .int), (cZ, .boolean)] (bI true) := by
  intro sz
  refine kOf (cc := cX5_apart) (maxL := 4) (ret := (some .boolean)) (by decide) rfl (Nat.le_of_ble_eq_true rfl) ?_
  intro p e s m below meth c hx hb hr hml hts hown hlocks hB ls hl
  obtain ⟨hsz, hP, hK, hD0⟩ := hB
  subst hsz
  have hD := hD0.self (sz := s.heap.size)
  generalize hAe : va_A [(om, .inr (5, [.int (nI cd), .int (nI ns), .ref apx, .ref apy, .ref act, .int (nI nb), .ref asd, .ref amv, .ref asl, .ref apl, .ref asw, .int (nI nw), .ref aor, .int (nI nc), .ref aon, .ref atw, .long mx, .long my, .ref aup, .ref alw, .int (nI nm), .long up, .long lo, .long rx, .long ry])), (apx, .inl (cJ, 256, .inr (.inl fpx))), (apy, .inl (cJ, 256, .inr (.inl fpy))), (act, .inl (cI, 16, .inl (nF ct)))] s.heap.size = A at hD ⊢
  have hA : ∀ q : Nat, s.heap.size ≤ q → A q := fun q h => by rw [← hAe]; exact Or.inr h
  have hS : va_S A s.heap s.heap [] := va_S.rf
  have hl : lv_has ls 4 [(0, .ref om), (1, .int (nI s_)), (2, .int (nI t_))] := hl
  have hi5 : ∀ w ∈ u_ws RX5 TX5 25, w ∈ wsX5_apart := by decide +kernel
  have f16 := hts (.fieldLink RX5 16 "SweptBoxesModel" "counts" "[I") (by decide +kernel)
  have f54 := hts (.fieldLink RX5 54 "SweptBoxesModel" "code" "I") (by decide +kernel)
  refine lv_aload_n hx hb dX5_apart_0 rfl (lv_at hl 0 rfl) ?_
  refine lv_aload_n hx hb dX5_apart_1 rfl (lv_at hl 0 rfl) ?_
  refine lv_iload_n hx hb dX5_apart_2 rfl (lv_at hl 1 rfl) ?_
  refine kpVi (q0 := 0) (ci := 5) (As := [.int (nI s_)]) (rest := [.ref om]) (WC := [(om, .inr (5, [.int (nI cd), .int (nI ns), .ref apx, .ref apy, .ref act, .int (nI nb), .ref asd, .ref amv, .ref asl, .ref apl, .ref asw, .int (nI nw), .ref aor, .int (nI nc), .ref aon, .ref atw, .long mx, .long my, .ref aup, .ref alw, .int (nI nm), .long up, .long lo, .long rx, .long ry]))]) (tyC := [(cJ, .long), (cI, .int), (cZ, .boolean)]) ⟨hx, hb, hml, hown, hts⟩ (tX5_isShape l dC dI cJ cI cZ om cd ns apx apy act nb asd amv asl apl asw nw aor nc aon atw aup alw nm mx my up lo rx ry (nI s_)) (cwV 1 hts gX5_apart_X5_isShape rfl rfl rfl (by decide +kernel) ⟨Nat.le_of_ble_eq_true rfl, Nat.le_of_ble_eq_true rfl⟩) (kPick (isC := [0]) hP rfl) (hK.sub [0, 1, 2] rfl) rfl rfl rfl rfl hl.1 (Nat.le_of_ble_eq_true rfl) dX5_apart_3 ⟨Nat.le_of_ble_eq_true rfl, Nat.le_of_ble_eq_true rfl⟩ ?_
  refine lv_if_eq (tgt := 21) hx hb dX5_apart_6 (by decide) (fun c6 => ?_) (fun c6 => ?_)
  · replace c6 := bI_0 c6; replace c6 := of_decide_eq_false c6
    exact absurd ⟨nI_pos' (by omega), nI_lt hs (by omega)⟩ c6
  · replace c6 := bI_n c6; replace c6 := of_decide_eq_true c6
    refine lv_aload_n hx hb dX5_apart_9 rfl (lv_at hl 0 rfl) ?_
    refine lv_iload_n hx hb dX5_apart_10 rfl (lv_at hl 2 rfl) ?_
    refine kpVi (q0 := 0) (ci := 5) (As := [.int (nI t_)]) (rest := [.ref om]) (WC := [(om, .inr (5, [.int (nI cd), .int (nI ns), .ref apx, .ref apy, .ref act, .int (nI nb), .ref asd, .ref amv, .ref asl, .ref apl, .ref asw, .int (nI nw), .ref aor, .int (nI nc), .ref aon, .ref atw, .long mx, .long my, .ref aup, .ref alw, .int (nI nm), .long up, .long lo, .long rx, .long ry]))]) (tyC := [(cJ, .long), (cI, .int), (cZ, .boolean)]) ⟨hx, hb, hml, hown, hts⟩ (tX5_isShape l dC dI cJ cI cZ om cd ns apx apy act nb asd amv asl apl asw nw aor nc aon atw aup alw nm mx my up lo rx ry (nI t_)) (cwV 1 hts gX5_apart_X5_isShape rfl rfl rfl (by decide +kernel) ⟨Nat.le_of_ble_eq_true rfl, Nat.le_of_ble_eq_true rfl⟩) (kPick (isC := [0]) hP rfl) (hK.sub [0, 1, 2] rfl) rfl rfl rfl rfl hl.1 (Nat.le_of_ble_eq_true rfl) dX5_apart_11 ⟨Nat.le_of_ble_eq_true rfl, Nat.le_of_ble_eq_true rfl⟩ ?_
    refine lv_if_eq (tgt := 21) hx hb dX5_apart_14 (by decide) (fun c14 => ?_) (fun c14 => ?_)
    · replace c14 := bI_0 c14; replace c14 := of_decide_eq_false c14
      exact absurd ⟨nI_pos' (by omega), nI_lt ht (by omega)⟩ c14
    · replace c14 := bI_n c14; replace c14 := of_decide_eq_true c14
      refine lv_iconst (v := (nI 0)) hx hb dX5_apart_17 (by decide) ?_
      refine lv_goto (tgt := 22) hx hb dX5_apart_18 (by decide) ?_
      refine va_put (D := (dC, dI)) (ci := 5) (v := .int (nI 0)) (ty := .int) (C := RX5) (T := TX5) (N := 25) hx hb hts hi5 tyX5 tyX5_ok nmX5 hown hK hP hD hS 0 rfl rfl 0 (by decide) f54 (fun _ h9 => h9) rfl (by decide +kernel) rfl rfl (Nat.le_of_ble_eq_true rfl) dX5_apart_22 (fun H locs hP hD hS => ?_)
      have hP : va_P (dC, dI) vwCl [(om, .inr (5, [.int (nI 0), .int (nI ns), .ref apx, .ref apy, .ref act, .int (nI nb), .ref asd, .ref amv, .ref asl, .ref apl, .ref asw, .int (nI nw), .ref aor, .int (nI nc), .ref aon, .ref atw, .long mx, .long my, .ref aup, .ref alw, .int (nI nm), .long up, .long lo, .long rx, .long ry])), (apx, .inl (cJ, 256, .inr (.inl fpx))), (apy, .inl (cJ, 256, .inr (.inl fpy))), (act, .inl (cI, 16, .inl (nF ct)))] H := hP
      have hD : va_D A [(om, .inr (5, [.int (nI 0), .int (nI ns), .ref apx, .ref apy, .ref act, .int (nI nb), .ref asd, .ref amv, .ref asl, .ref apl, .ref asw, .int (nI nw), .ref aor, .int (nI nc), .ref aon, .ref atw, .long mx, .long my, .ref aup, .ref alw, .int (nI nm), .long up, .long lo, .long rx, .long ry])), (apx, .inl (cJ, 256, .inr (.inl fpx))), (apy, .inl (cJ, 256, .inr (.inl fpy))), (act, .inl (cI, 16, .inl (nF ct)))] := hD
      refine lv_aload_n hx hb dX5_apart_25 rfl (lv_at hl 0 rfl) ?_
      refine va_get (D := (dC, dI)) (ci := 5) (v := .int (nI 0)) (C := RX5) (T := TX5) (N := 25) hx hb hts hi5 hown hK hP 0 rfl rfl 0 (by decide) f54 (fun _ h9 => h9) rfl dX5_apart_26 ?_
      refine lv_if_gt (tgt := 50) hx hb dX5_apart_29 (by decide) (fun c29 => ?_) (fun c29 => ?_)
      · skip
        exact absurd c29 (by decide)
      · rw [← nI_0, nI_ltI (by omega) (by omega), Nat.not_lt] at c29
        refine lv_aload_n hx hb dX5_apart_32 rfl (lv_at hl 0 rfl) ?_
        refine va_get (D := (dC, dI)) (ci := 5) (v := .ref act) (C := RX5) (T := TX5) (N := 25) hx hb hts hi5 hown hK hP 0 rfl rfl 4 (by decide) f16 (fun _ h9 => h9) rfl dX5_apart_33 ?_
        refine lv_iload_n hx hb dX5_apart_36 rfl (lv_at hl 1 rfl) ?_
        refine va_iald hx hb hK hP 3 1 rfl rfl (vp_in_nI (show s_ < 16 by omega) (by omega)) dX5_apart_37 ?_
        rw [show (nI s_).toNatClampNeg = s_ from nI_clamp (show s_ < 2 ^ 31 by omega)]
        rw [show (nF ct) s_ = (nI (ct s_)) from rfl]
        refine lv_if_eq (tgt := 50) hx hb dX5_apart_38 (by decide) (fun c38 => ?_) (fun c38 => ?_)
        · rw [← nI_0, nI_eq (by omega) (by omega)] at c38
          refine lv_aload_n hx hb dX5_apart_50 rfl (lv_at hl 0 rfl) ?_
          refine va_get (D := (dC, dI)) (ci := 5) (v := .int (nI 0)) (C := RX5) (T := TX5) (N := 25) hx hb hts hi5 hown hK hP 0 rfl rfl 0 (by decide) f54 (fun _ h9 => h9) rfl dX5_apart_51 ?_
          refine lv_if_ne (tgt := 61) hx hb dX5_apart_54 (by decide) (fun c54 => ?_) (fun c54 => ?_)
          · skip
            exact absurd c54 (by decide)
          · rw [← nI_0, nI_eq (by omega) (by omega)] at c54
            refine lv_iconst (v := (nI 1)) hx hb dX5_apart_57 (by decide) ?_
            refine lv_goto (tgt := 62) hx hb dX5_apart_58 (by decide) ?_
            exact kEz hx hb hr hlocks hP hK hD hS dX5_apart_62 rfl
        · rw [← nI_0, nI_eq (by omega) (by omega)] at c38
          refine lv_aload_n hx hb dX5_apart_41 rfl (lv_at hl 0 rfl) ?_
          refine va_get (D := (dC, dI)) (ci := 5) (v := .ref act) (C := RX5) (T := TX5) (N := 25) hx hb hts hi5 hown hK hP 0 rfl rfl 4 (by decide) f16 (fun _ h9 => h9) rfl dX5_apart_42 ?_
          refine lv_iload_n hx hb dX5_apart_45 rfl (lv_at hl 2 rfl) ?_
          refine va_iald hx hb hK hP 3 1 rfl rfl (vp_in_nI (show t_ < 16 by omega) (by omega)) dX5_apart_46 ?_
          rw [show (nI t_).toNatClampNeg = t_ from nI_clamp (show t_ < 2 ^ 31 by omega)]
          rw [show (nF ct) t_ = (nI (ct t_)) from rfl]
          refine lv_if_ne (tgt := 63) hx hb dX5_apart_47 (by decide) (fun c47 => ?_) (fun c47 => ?_)
          · rw [← nI_0, nI_eq (by omega) (by omega)] at c47
            exact absurd hz (by omega)
          · rw [← nI_0, nI_eq (by omega) (by omega)] at c47
            refine lv_aload_n hx hb dX5_apart_50 rfl (lv_at hl 0 rfl) ?_
            refine va_get (D := (dC, dI)) (ci := 5) (v := .int (nI 0)) (C := RX5) (T := TX5) (N := 25) hx hb hts hi5 hown hK hP 0 rfl rfl 0 (by decide) f54 (fun _ h9 => h9) rfl dX5_apart_51 ?_
            refine lv_if_ne (tgt := 61) hx hb dX5_apart_54 (by decide) (fun c54 => ?_) (fun c54 => ?_)
            · skip
              exact absurd c54 (by decide)
            · rw [← nI_0, nI_eq (by omega) (by omega)] at c54
              refine lv_iconst (v := (nI 1)) hx hb dX5_apart_57 (by decide) ?_
              refine lv_goto (tgt := 62) hx hb dX5_apart_58 (by decide) ?_
              exact kEz hx hb hr hlocks hP hK hD hS dX5_apart_62 rfl

set_option maxHeartbeats 4000000 in
set_option maxRecDepth 100000 in
theorem tX5_apart_o (l : Launch) (dC : Nat → ClassId) (dI : Nat → Nat → Nat) (cJ cI cZ : ClassId) (om cd ns apx apy act nb asd amv asl apl asw nw aor nc aon atw aup alw nm : Nat) (mx my up lo rx ry : Int64) (fpx : Nat → Int64) (fpy : Nat → Int64) (ct : Nat → Nat) (s_ t_ : Nat) (hs : s_ < ns) (ht : t_ < ns) (hn : ns ≤ 16) (hcs : ct s_ ≤ 16) (hct : ct t_ ≤ 16) (hz1 : 0 < ct s_) (hz2 : 0 < ct t_) : MMi l yX5_apart wsX5_apart { frames := 4, cells := 0, slots := 0, locals := 116 } [.ref om, .int (nI s_), .int (nI t_)] (dC, dI) [(om, .inr (5, [.int (nI cd), .int (nI ns), .ref apx, .ref apy, .ref act, .int (nI nb), .ref asd, .ref amv, .ref asl, .ref apl, .ref asw, .int (nI nw), .ref aor, .int (nI nc), .ref aon, .ref atw, .long mx, .long my, .ref aup, .ref alw, .int (nI nm), .long up, .long lo, .long rx, .long ry])), (apx, .inl (cJ, 256, .inr (.inl fpx))), (apy, .inl (cJ, 256, .inr (.inl fpy))), (act, .inl (cI, 16, .inl (nF ct)))] [(om, .inr (5, [.int (nI 0), .int (nI ns), .ref apx, .ref apy, .ref act, .int (nI nb), .ref asd, .ref amv, .ref asl, .ref apl, .ref asw, .int (nI nw), .ref aor, .int (nI nc), .ref aon, .ref atw, .long mx, .long my, .ref aup, .ref alw, .int (nI nm), .long up, .long lo, .long rx, .long ry])), (apx, .inl (cJ, 256, .inr (.inl fpx))), (apy, .inl (cJ, 256, .inr (.inl fpy))), (act, .inl (cI, 16, .inl (nF ct)))] [(cJ, .long), (cI, .int), (cZ, .boolean)] (bI (pB (¬ mIn fpx fpy false (fpx (16 * t_)) (fpy (16 * t_)) (16 * s_) (16 * s_ + ct s_) ∧ ¬ mIn fpx fpy false (fpx (16 * s_)) (fpy (16 * s_)) (16 * t_) (16 * t_ + ct t_) ∧ ¬ mX fpx fpy (16 * s_) (16 * s_ + ct s_) (16 * t_) (16 * t_ + ct t_)))) := by
  intro sz
  refine kOf (cc := cX5_apart) (maxL := 4) (ret := (some .boolean)) (by decide) rfl (Nat.le_of_ble_eq_true rfl) ?_
  intro p e s m below meth c hx hb hr hml hts hown hlocks hB ls hl
  obtain ⟨hsz, hP, hK, hD0⟩ := hB
  subst hsz
  have hD := hD0.self (sz := s.heap.size)
  generalize hAe : va_A [(om, .inr (5, [.int (nI cd), .int (nI ns), .ref apx, .ref apy, .ref act, .int (nI nb), .ref asd, .ref amv, .ref asl, .ref apl, .ref asw, .int (nI nw), .ref aor, .int (nI nc), .ref aon, .ref atw, .long mx, .long my, .ref aup, .ref alw, .int (nI nm), .long up, .long lo, .long rx, .long ry])), (apx, .inl (cJ, 256, .inr (.inl fpx))), (apy, .inl (cJ, 256, .inr (.inl fpy))), (act, .inl (cI, 16, .inl (nF ct)))] s.heap.size = A at hD ⊢
  have hA : ∀ q : Nat, s.heap.size ≤ q → A q := fun q h => by rw [← hAe]; exact Or.inr h
  have hS : va_S A s.heap s.heap [] := va_S.rf
  have hl : lv_has ls 4 [(0, .ref om), (1, .int (nI s_)), (2, .int (nI t_))] := hl
  have hi5 : ∀ w ∈ u_ws RX5 TX5 25, w ∈ wsX5_apart := by decide +kernel
  have f7 := hts (.fieldLink RX5 7 "SweptBoxesModel" "px" "[J") (by decide +kernel)
  have f13 := hts (.fieldLink RX5 13 "SweptBoxesModel" "py" "[J") (by decide +kernel)
  have f16 := hts (.fieldLink RX5 16 "SweptBoxesModel" "counts" "[I") (by decide +kernel)
  have f54 := hts (.fieldLink RX5 54 "SweptBoxesModel" "code" "I") (by decide +kernel)
  refine lv_aload_n hx hb dX5_apart_0 rfl (lv_at hl 0 rfl) ?_
  refine lv_aload_n hx hb dX5_apart_1 rfl (lv_at hl 0 rfl) ?_
  refine lv_iload_n hx hb dX5_apart_2 rfl (lv_at hl 1 rfl) ?_
  refine kpVi (q0 := 0) (ci := 5) (As := [.int (nI s_)]) (rest := [.ref om]) (WC := [(om, .inr (5, [.int (nI cd), .int (nI ns), .ref apx, .ref apy, .ref act, .int (nI nb), .ref asd, .ref amv, .ref asl, .ref apl, .ref asw, .int (nI nw), .ref aor, .int (nI nc), .ref aon, .ref atw, .long mx, .long my, .ref aup, .ref alw, .int (nI nm), .long up, .long lo, .long rx, .long ry]))]) (tyC := [(cJ, .long), (cI, .int), (cZ, .boolean)]) ⟨hx, hb, hml, hown, hts⟩ (tX5_isShape l dC dI cJ cI cZ om cd ns apx apy act nb asd amv asl apl asw nw aor nc aon atw aup alw nm mx my up lo rx ry (nI s_)) (cwV 1 hts gX5_apart_X5_isShape rfl rfl rfl (by decide +kernel) ⟨Nat.le_of_ble_eq_true rfl, Nat.le_of_ble_eq_true rfl⟩) (kPick (isC := [0]) hP rfl) (hK.sub [0, 1, 2] rfl) rfl rfl rfl rfl hl.1 (Nat.le_of_ble_eq_true rfl) dX5_apart_3 ⟨Nat.le_of_ble_eq_true rfl, Nat.le_of_ble_eq_true rfl⟩ ?_
  refine lv_if_eq (tgt := 21) hx hb dX5_apart_6 (by decide) (fun c6 => ?_) (fun c6 => ?_)
  · replace c6 := bI_0 c6; replace c6 := of_decide_eq_false c6
    exact absurd ⟨nI_pos' (by omega), nI_lt hs (by omega)⟩ c6
  · replace c6 := bI_n c6; replace c6 := of_decide_eq_true c6
    refine lv_aload_n hx hb dX5_apart_9 rfl (lv_at hl 0 rfl) ?_
    refine lv_iload_n hx hb dX5_apart_10 rfl (lv_at hl 2 rfl) ?_
    refine kpVi (q0 := 0) (ci := 5) (As := [.int (nI t_)]) (rest := [.ref om]) (WC := [(om, .inr (5, [.int (nI cd), .int (nI ns), .ref apx, .ref apy, .ref act, .int (nI nb), .ref asd, .ref amv, .ref asl, .ref apl, .ref asw, .int (nI nw), .ref aor, .int (nI nc), .ref aon, .ref atw, .long mx, .long my, .ref aup, .ref alw, .int (nI nm), .long up, .long lo, .long rx, .long ry]))]) (tyC := [(cJ, .long), (cI, .int), (cZ, .boolean)]) ⟨hx, hb, hml, hown, hts⟩ (tX5_isShape l dC dI cJ cI cZ om cd ns apx apy act nb asd amv asl apl asw nw aor nc aon atw aup alw nm mx my up lo rx ry (nI t_)) (cwV 1 hts gX5_apart_X5_isShape rfl rfl rfl (by decide +kernel) ⟨Nat.le_of_ble_eq_true rfl, Nat.le_of_ble_eq_true rfl⟩) (kPick (isC := [0]) hP rfl) (hK.sub [0, 1, 2] rfl) rfl rfl rfl rfl hl.1 (Nat.le_of_ble_eq_true rfl) dX5_apart_11 ⟨Nat.le_of_ble_eq_true rfl, Nat.le_of_ble_eq_true rfl⟩ ?_
    refine lv_if_eq (tgt := 21) hx hb dX5_apart_14 (by decide) (fun c14 => ?_) (fun c14 => ?_)
    · replace c14 := bI_0 c14; replace c14 := of_decide_eq_false c14
      exact absurd ⟨nI_pos' (by omega), nI_lt ht (by omega)⟩ c14
    · replace c14 := bI_n c14; replace c14 := of_decide_eq_true c14
      refine lv_iconst (v := (nI 0)) hx hb dX5_apart_17 (by decide) ?_
      refine lv_goto (tgt := 22) hx hb dX5_apart_18 (by decide) ?_
      refine va_put (D := (dC, dI)) (ci := 5) (v := .int (nI 0)) (ty := .int) (C := RX5) (T := TX5) (N := 25) hx hb hts hi5 tyX5 tyX5_ok nmX5 hown hK hP hD hS 0 rfl rfl 0 (by decide) f54 (fun _ h9 => h9) rfl (by decide +kernel) rfl rfl (Nat.le_of_ble_eq_true rfl) dX5_apart_22 (fun H locs hP hD hS => ?_)
      have hP : va_P (dC, dI) vwCl [(om, .inr (5, [.int (nI 0), .int (nI ns), .ref apx, .ref apy, .ref act, .int (nI nb), .ref asd, .ref amv, .ref asl, .ref apl, .ref asw, .int (nI nw), .ref aor, .int (nI nc), .ref aon, .ref atw, .long mx, .long my, .ref aup, .ref alw, .int (nI nm), .long up, .long lo, .long rx, .long ry])), (apx, .inl (cJ, 256, .inr (.inl fpx))), (apy, .inl (cJ, 256, .inr (.inl fpy))), (act, .inl (cI, 16, .inl (nF ct)))] H := hP
      have hD : va_D A [(om, .inr (5, [.int (nI 0), .int (nI ns), .ref apx, .ref apy, .ref act, .int (nI nb), .ref asd, .ref amv, .ref asl, .ref apl, .ref asw, .int (nI nw), .ref aor, .int (nI nc), .ref aon, .ref atw, .long mx, .long my, .ref aup, .ref alw, .int (nI nm), .long up, .long lo, .long rx, .long ry])), (apx, .inl (cJ, 256, .inr (.inl fpx))), (apy, .inl (cJ, 256, .inr (.inl fpy))), (act, .inl (cI, 16, .inl (nF ct)))] := hD
      refine lv_aload_n hx hb dX5_apart_25 rfl (lv_at hl 0 rfl) ?_
      refine va_get (D := (dC, dI)) (ci := 5) (v := .int (nI 0)) (C := RX5) (T := TX5) (N := 25) hx hb hts hi5 hown hK hP 0 rfl rfl 0 (by decide) f54 (fun _ h9 => h9) rfl dX5_apart_26 ?_
      refine lv_if_gt (tgt := 50) hx hb dX5_apart_29 (by decide) (fun c29 => ?_) (fun c29 => ?_)
      · skip
        exact absurd c29 (by decide)
      · rw [← nI_0, nI_ltI (by omega) (by omega), Nat.not_lt] at c29
        refine lv_aload_n hx hb dX5_apart_32 rfl (lv_at hl 0 rfl) ?_
        refine va_get (D := (dC, dI)) (ci := 5) (v := .ref act) (C := RX5) (T := TX5) (N := 25) hx hb hts hi5 hown hK hP 0 rfl rfl 4 (by decide) f16 (fun _ h9 => h9) rfl dX5_apart_33 ?_
        refine lv_iload_n hx hb dX5_apart_36 rfl (lv_at hl 1 rfl) ?_
        refine va_iald hx hb hK hP 3 1 rfl rfl (vp_in_nI (show s_ < 16 by omega) (by omega)) dX5_apart_37 ?_
        rw [show (nI s_).toNatClampNeg = s_ from nI_clamp (show s_ < 2 ^ 31 by omega)]
        rw [show (nF ct) s_ = (nI (ct s_)) from rfl]
        refine lv_if_eq (tgt := 50) hx hb dX5_apart_38 (by decide) (fun c38 => ?_) (fun c38 => ?_)
        · rw [← nI_0, nI_eq (by omega) (by omega)] at c38
          exfalso; omega
        · rw [← nI_0, nI_eq (by omega) (by omega)] at c38
          refine lv_aload_n hx hb dX5_apart_41 rfl (lv_at hl 0 rfl) ?_
          refine va_get (D := (dC, dI)) (ci := 5) (v := .ref act) (C := RX5) (T := TX5) (N := 25) hx hb hts hi5 hown hK hP 0 rfl rfl 4 (by decide) f16 (fun _ h9 => h9) rfl dX5_apart_42 ?_
          refine lv_iload_n hx hb dX5_apart_45 rfl (lv_at hl 2 rfl) ?_
          refine va_iald hx hb hK hP 3 1 rfl rfl (vp_in_nI (show t_ < 16 by omega) (by omega)) dX5_apart_46 ?_
          rw [show (nI t_).toNatClampNeg = t_ from nI_clamp (show t_ < 2 ^ 31 by omega)]
          rw [show (nF ct) t_ = (nI (ct t_)) from rfl]
          refine lv_if_ne (tgt := 63) hx hb dX5_apart_47 (by decide) (fun c47 => ?_) (fun c47 => ?_)
          · rw [← nI_0, nI_eq (by omega) (by omega)] at c47
            refine lv_aload_n hx hb dX5_apart_63 rfl (lv_at hl 0 rfl) ?_
            refine lv_iload_n hx hb dX5_apart_64 rfl (lv_at hl 1 rfl) ?_
            refine lv_aload_n hx hb dX5_apart_65 rfl (lv_at hl 0 rfl) ?_
            refine va_get (D := (dC, dI)) (ci := 5) (v := .ref apx) (C := RX5) (T := TX5) (N := 25) hx hb hts hi5 hown hK hP 0 rfl rfl 2 (by decide) f7 (fun _ h9 => h9) rfl dX5_apart_66 ?_
            refine lv_bipush (v := (nI 16)) hx hb dX5_apart_69 (by decide) ?_
            refine lv_iload_n hx hb dX5_apart_71 rfl (lv_at hl 2 rfl) ?_
            refine lv_imul hx hb dX5_apart_72 ?_
            rw [show (nI 16) * (nI t_) = (nI (16 * t_)) from pk_mul 16 t_]
            refine va_lald hx hb hK hP 1 0 rfl rfl (vp_in_nI (show (16 * t_) < 256 by omega) (by omega)) dX5_apart_73 ?_
            rw [show (nI (16 * t_)).toNatClampNeg = (16 * t_) from nI_clamp (show (16 * t_) < 2 ^ 31 by omega)]
            refine lv_aload_n hx hb dX5_apart_74 rfl (lv_at hl 0 rfl) ?_
            refine va_get (D := (dC, dI)) (ci := 5) (v := .ref apy) (C := RX5) (T := TX5) (N := 25) hx hb hts hi5 hown hK hP 0 rfl rfl 3 (by decide) f13 (fun _ h9 => h9) rfl dX5_apart_75 ?_
            refine lv_bipush (v := (nI 16)) hx hb dX5_apart_78 (by decide) ?_
            refine lv_iload_n hx hb dX5_apart_80 rfl (lv_at hl 2 rfl) ?_
            refine lv_imul hx hb dX5_apart_81 ?_
            rw [show (nI 16) * (nI t_) = (nI (16 * t_)) from pk_mul 16 t_]
            refine va_lald hx hb hK hP 2 0 rfl rfl (vp_in_nI (show (16 * t_) < 256 by omega) (by omega)) dX5_apart_82 ?_
            rw [show (nI (16 * t_)).toNatClampNeg = (16 * t_) from nI_clamp (show (16 * t_) < 2 ^ 31 by omega)]
            refine lv_iconst (v := (nI 0)) hx hb dX5_apart_83 (by decide) ?_
            refine kpVi (q0 := 0) (ci := 5) (As := [.int (nI s_), .long (fpx ((16 * t_))), .long (fpy ((16 * t_))), .int (nI 0)]) (rest := []) (WC := [(om, .inr (5, [.int (nI 0), .int (nI ns), .ref apx, .ref apy, .ref act, .int (nI nb), .ref asd, .ref amv, .ref asl, .ref apl, .ref asw, .int (nI nw), .ref aor, .int (nI nc), .ref aon, .ref atw, .long mx, .long my, .ref aup, .ref alw, .int (nI nm), .long up, .long lo, .long rx, .long ry])), (apx, .inl (cJ, 256, .inr (.inl fpx))), (apy, .inl (cJ, 256, .inr (.inl fpy))), (act, .inl (cI, 16, .inl (nF ct)))]) (tyC := [(cJ, .long), (cI, .int), (cZ, .boolean)]) ⟨hx, hb, hml, hown, hts⟩ (tX5_isInside l dC dI cJ cI cZ om 0 ns apx apy act nb asd amv asl apl asw nw aor nc aon atw aup alw nm mx my up lo rx ry fpx fpy ct s_ (fpx ((16 * t_))) (fpy ((16 * t_))) false (by omega) (by omega)) (cwV 4 hts gX5_apart_X5_isInside rfl rfl rfl (by decide +kernel) ⟨Nat.le_of_ble_eq_true rfl, Nat.le_of_ble_eq_true rfl⟩) (kPick (isC := [0, 1, 2, 3]) hP rfl) (hK.sub [0, 1, 2] rfl) rfl rfl rfl rfl hl.1 (Nat.le_of_ble_eq_true rfl) dX5_apart_84 ⟨Nat.le_of_ble_eq_true rfl, Nat.le_of_ble_eq_true rfl⟩ ?_
            refine lv_if_ne (tgt := 117) hx hb dX5_apart_87 (by decide) (fun c87 => ?_) (fun c87 => ?_)
            · replace c87 := bI_n c87; replace c87 := pB_iff.mp c87
              refine lv_iconst (v := (nI 1)) hx hb dX5_apart_117 (by decide) ?_
              refine lv_goto (tgt := 122) hx hb dX5_apart_118 (by decide) ?_
              refine lv_istore_n (lv' := [(3, .int (nI 1)), (0, .ref om), (1, .int (nI s_)), (2, .int (nI t_))]) hx hb dX5_apart_122 rfl hl (by decide) rfl (fun ls hl => ?_)
              refine lv_iload_n hx hb dX5_apart_123 rfl (lv_at hl 0 rfl) ?_
              refine lv_if_ne (tgt := 140) hx hb dX5_apart_124 (by decide) (fun c124 => ?_) (fun c124 => ?_)
              · rw [← nI_0, nI_eq (by omega) (by omega)] at c124
                refine lv_iconst (v := (nI 0)) hx hb dX5_apart_140 (by decide) ?_
                exact kEz hx hb hr hlocks hP hK hD hS dX5_apart_141 (kp0 (fun h => h.1 c87))
              · skip
                exact absurd c124 (by decide)
            · replace c87 := bI_0 c87; replace c87 := pB_not c87
              refine lv_aload_n hx hb dX5_apart_90 rfl (lv_at hl 0 rfl) ?_
              refine lv_iload_n hx hb dX5_apart_91 rfl (lv_at hl 2 rfl) ?_
              refine lv_aload_n hx hb dX5_apart_92 rfl (lv_at hl 0 rfl) ?_
              refine va_get (D := (dC, dI)) (ci := 5) (v := .ref apx) (C := RX5) (T := TX5) (N := 25) hx hb hts hi5 hown hK hP 0 rfl rfl 2 (by decide) f7 (fun _ h9 => h9) rfl dX5_apart_93 ?_
              refine lv_bipush (v := (nI 16)) hx hb dX5_apart_96 (by decide) ?_
              refine lv_iload_n hx hb dX5_apart_98 rfl (lv_at hl 1 rfl) ?_
              refine lv_imul hx hb dX5_apart_99 ?_
              rw [show (nI 16) * (nI s_) = (nI (16 * s_)) from pk_mul 16 s_]
              refine va_lald hx hb hK hP 1 0 rfl rfl (vp_in_nI (show (16 * s_) < 256 by omega) (by omega)) dX5_apart_100 ?_
              rw [show (nI (16 * s_)).toNatClampNeg = (16 * s_) from nI_clamp (show (16 * s_) < 2 ^ 31 by omega)]
              refine lv_aload_n hx hb dX5_apart_101 rfl (lv_at hl 0 rfl) ?_
              refine va_get (D := (dC, dI)) (ci := 5) (v := .ref apy) (C := RX5) (T := TX5) (N := 25) hx hb hts hi5 hown hK hP 0 rfl rfl 3 (by decide) f13 (fun _ h9 => h9) rfl dX5_apart_102 ?_
              refine lv_bipush (v := (nI 16)) hx hb dX5_apart_105 (by decide) ?_
              refine lv_iload_n hx hb dX5_apart_107 rfl (lv_at hl 1 rfl) ?_
              refine lv_imul hx hb dX5_apart_108 ?_
              rw [show (nI 16) * (nI s_) = (nI (16 * s_)) from pk_mul 16 s_]
              refine va_lald hx hb hK hP 2 0 rfl rfl (vp_in_nI (show (16 * s_) < 256 by omega) (by omega)) dX5_apart_109 ?_
              rw [show (nI (16 * s_)).toNatClampNeg = (16 * s_) from nI_clamp (show (16 * s_) < 2 ^ 31 by omega)]
              refine lv_iconst (v := (nI 0)) hx hb dX5_apart_110 (by decide) ?_
              refine kpVi (q0 := 0) (ci := 5) (As := [.int (nI t_), .long (fpx ((16 * s_))), .long (fpy ((16 * s_))), .int (nI 0)]) (rest := []) (WC := [(om, .inr (5, [.int (nI 0), .int (nI ns), .ref apx, .ref apy, .ref act, .int (nI nb), .ref asd, .ref amv, .ref asl, .ref apl, .ref asw, .int (nI nw), .ref aor, .int (nI nc), .ref aon, .ref atw, .long mx, .long my, .ref aup, .ref alw, .int (nI nm), .long up, .long lo, .long rx, .long ry])), (apx, .inl (cJ, 256, .inr (.inl fpx))), (apy, .inl (cJ, 256, .inr (.inl fpy))), (act, .inl (cI, 16, .inl (nF ct)))]) (tyC := [(cJ, .long), (cI, .int), (cZ, .boolean)]) ⟨hx, hb, hml, hown, hts⟩ (tX5_isInside l dC dI cJ cI cZ om 0 ns apx apy act nb asd amv asl apl asw nw aor nc aon atw aup alw nm mx my up lo rx ry fpx fpy ct t_ (fpx ((16 * s_))) (fpy ((16 * s_))) false (by omega) (by omega)) (cwV 4 hts gX5_apart_X5_isInside rfl rfl rfl (by decide +kernel) ⟨Nat.le_of_ble_eq_true rfl, Nat.le_of_ble_eq_true rfl⟩) (kPick (isC := [0, 1, 2, 3]) hP rfl) (hK.sub [0, 1, 2] rfl) rfl rfl rfl rfl hl.1 (Nat.le_of_ble_eq_true rfl) dX5_apart_111 ⟨Nat.le_of_ble_eq_true rfl, Nat.le_of_ble_eq_true rfl⟩ ?_
              refine lv_if_eq (tgt := 121) hx hb dX5_apart_114 (by decide) (fun c114 => ?_) (fun c114 => ?_)
              · replace c114 := bI_0 c114; replace c114 := pB_not c114
                refine lv_iconst (v := (nI 0)) hx hb dX5_apart_121 (by decide) ?_
                refine lv_istore_n (lv' := [(3, .int (nI 0)), (0, .ref om), (1, .int (nI s_)), (2, .int (nI t_))]) hx hb dX5_apart_122 rfl hl (by decide) rfl (fun ls hl => ?_)
                refine lv_iload_n hx hb dX5_apart_123 rfl (lv_at hl 0 rfl) ?_
                refine lv_if_ne (tgt := 140) hx hb dX5_apart_124 (by decide) (fun c124 => ?_) (fun c124 => ?_)
                · skip
                  exact absurd c124 (by decide)
                · rw [← nI_0, nI_eq (by omega) (by omega)] at c124
                  refine lv_aload_n hx hb dX5_apart_127 rfl (lv_at hl 1 rfl) ?_
                  refine lv_iload_n hx hb dX5_apart_128 rfl (lv_at hl 2 rfl) ?_
                  refine lv_iload_n hx hb dX5_apart_129 rfl (lv_at hl 3 rfl) ?_
                  refine kpVi (q0 := 0) (ci := 5) (As := [.int (nI s_), .int (nI t_)]) (rest := []) (WC := [(om, .inr (5, [.int (nI 0), .int (nI ns), .ref apx, .ref apy, .ref act, .int (nI nb), .ref asd, .ref amv, .ref asl, .ref apl, .ref asw, .int (nI nw), .ref aor, .int (nI nc), .ref aon, .ref atw, .long mx, .long my, .ref aup, .ref alw, .int (nI nm), .long up, .long lo, .long rx, .long ry])), (apx, .inl (cJ, 256, .inr (.inl fpx))), (apy, .inl (cJ, 256, .inr (.inl fpy))), (act, .inl (cI, 16, .inl (nF ct)))]) (tyC := [(cJ, .long), (cI, .int), (cZ, .boolean)]) ⟨hx, hb, hml, hown, hts⟩ (tX5_isCrossing l dC dI cJ cI cZ om 0 ns apx apy act nb asd amv asl apl asw nw aor nc aon atw aup alw nm mx my up lo rx ry fpx fpy ct s_ t_ (by omega) (by omega) (by omega) (by omega)) (cwV 2 hts gX5_apart_X5_isCrossing rfl rfl rfl (by decide +kernel) ⟨Nat.le_of_ble_eq_true rfl, Nat.le_of_ble_eq_true rfl⟩) (kPick (isC := [0, 1, 2, 3]) hP rfl) (hK.sub [0, 1, 2] rfl) rfl rfl rfl rfl hl.1 (Nat.le_of_ble_eq_true rfl) dX5_apart_130 ⟨Nat.le_of_ble_eq_true rfl, Nat.le_of_ble_eq_true rfl⟩ ?_
                  refine lv_if_ne (tgt := 140) hx hb dX5_apart_133 (by decide) (fun c133 => ?_) (fun c133 => ?_)
                  · replace c133 := bI_n c133; replace c133 := pB_iff.mp c133
                    refine lv_iconst (v := (nI 0)) hx hb dX5_apart_140 (by decide) ?_
                    exact kEz hx hb hr hlocks hP hK hD hS dX5_apart_141 (kp0 (fun h => h.2.2 c133))
                  · replace c133 := bI_0 c133; replace c133 := pB_not c133
                    refine lv_iconst (v := (nI 1)) hx hb dX5_apart_136 (by decide) ?_
                    refine lv_goto (tgt := 141) hx hb dX5_apart_137 (by decide) ?_
                    exact kEz hx hb hr hlocks hP hK hD hS dX5_apart_141 (kp1 ⟨c87, c114, c133⟩)
              · replace c114 := bI_n c114; replace c114 := pB_iff.mp c114
                refine lv_iconst (v := (nI 1)) hx hb dX5_apart_117 (by decide) ?_
                refine lv_goto (tgt := 122) hx hb dX5_apart_118 (by decide) ?_
                refine lv_istore_n (lv' := [(3, .int (nI 1)), (0, .ref om), (1, .int (nI s_)), (2, .int (nI t_))]) hx hb dX5_apart_122 rfl hl (by decide) rfl (fun ls hl => ?_)
                refine lv_iload_n hx hb dX5_apart_123 rfl (lv_at hl 0 rfl) ?_
                refine lv_if_ne (tgt := 140) hx hb dX5_apart_124 (by decide) (fun c124 => ?_) (fun c124 => ?_)
                · rw [← nI_0, nI_eq (by omega) (by omega)] at c124
                  refine lv_iconst (v := (nI 0)) hx hb dX5_apart_140 (by decide) ?_
                  exact kEz hx hb hr hlocks hP hK hD hS dX5_apart_141 (kp0 (fun h => h.2.1 c114))
                · skip
                  exact absurd c124 (by decide)
          · rw [← nI_0, nI_eq (by omega) (by omega)] at c47
            exfalso; omega

set_option maxHeartbeats 4000000 in
set_option maxRecDepth 100000 in
theorem tX5_point_e1 (l : Launch) (dC : Nat → ClassId) (dI : Nat → Nat → Nat) (cJ cI cZ : ClassId) (om cd ns apx apy act nb asd amv asl apl asw nw aor nc aon atw aup alw nm : Nat) (mx my up lo rx ry : Int64) (fpx : Nat → Int64) (fpy : Nat → Int64) (ct : Nat → Nat) (si : Int32) (x y : Int64) (hbad : ¬ (0 ≤ si ∧ si < nI ns)) : MMi l yX5_point wsX5_point { frames := 1, cells := 0, slots := 0, locals := 21 } [.ref om, .int si, .long x, .long y] (dC, dI) [(om, .inr (5, [.int (nI cd), .int (nI ns), .ref apx, .ref apy, .ref act, .int (nI nb), .ref asd, .ref amv, .ref asl, .ref apl, .ref asw, .int (nI nw), .ref aor, .int (nI nc), .ref aon, .ref atw, .long mx, .long my, .ref aup, .ref alw, .int (nI nm), .long up, .long lo, .long rx, .long ry])), (apx, .inl (cJ, 256, .inr (.inl fpx))), (apy, .inl (cJ, 256, .inr (.inl fpy))), (act, .inl (cI, 16, .inl (nF ct)))] [(om, .inr (5, [.int (nI 1), .int (nI ns), .ref apx, .ref apy, .ref act, .int (nI nb), .ref asd, .ref amv, .ref asl, .ref apl, .ref asw, .int (nI nw), .ref aor, .int (nI nc), .ref aon, .ref atw, .long mx, .long my, .ref aup, .ref alw, .int (nI nm), .long up, .long lo, .long rx, .long ry])), (apx, .inl (cJ, 256, .inr (.inl fpx))), (apy, .inl (cJ, 256, .inr (.inl fpy))), (act, .inl (cI, 16, .inl (nF ct)))] [(cJ, .long), (cI, .int), (cZ, .boolean)] (bI false) := by
  intro sz
  refine kOf (cc := cX5_point) (maxL := 7) (ret := (some .boolean)) (by decide) rfl (Nat.le_of_ble_eq_true rfl) ?_
  intro p e s m below meth c hx hb hr hml hts hown hlocks hB ls hl
  obtain ⟨hsz, hP, hK, hD0⟩ := hB
  subst hsz
  have hD := hD0.self (sz := s.heap.size)
  generalize hAe : va_A [(om, .inr (5, [.int (nI cd), .int (nI ns), .ref apx, .ref apy, .ref act, .int (nI nb), .ref asd, .ref amv, .ref asl, .ref apl, .ref asw, .int (nI nw), .ref aor, .int (nI nc), .ref aon, .ref atw, .long mx, .long my, .ref aup, .ref alw, .int (nI nm), .long up, .long lo, .long rx, .long ry])), (apx, .inl (cJ, 256, .inr (.inl fpx))), (apy, .inl (cJ, 256, .inr (.inl fpy))), (act, .inl (cI, 16, .inl (nF ct)))] s.heap.size = A at hD ⊢
  have hA : ∀ q : Nat, s.heap.size ≤ q → A q := fun q h => by rw [← hAe]; exact Or.inr h
  have hS : va_S A s.heap s.heap [] := va_S.rf
  have hl : lv_has ls 7 [(0, .ref om), (1, .int si), (2, .long x), (4, .long y)] := hl
  have hi5 : ∀ w ∈ u_ws RX5 TX5 25, w ∈ wsX5_point := by decide +kernel
  have f54 := hts (.fieldLink RX5 54 "SweptBoxesModel" "code" "I") (by decide +kernel)
  refine lv_aload_n hx hb dX5_point_0 rfl (lv_at hl 0 rfl) ?_
  refine lv_aload_n hx hb dX5_point_1 rfl (lv_at hl 0 rfl) ?_
  refine lv_iload_n hx hb dX5_point_2 rfl (lv_at hl 1 rfl) ?_
  refine kpVi (q0 := 0) (ci := 5) (As := [.int si]) (rest := [.ref om]) (WC := [(om, .inr (5, [.int (nI cd), .int (nI ns), .ref apx, .ref apy, .ref act, .int (nI nb), .ref asd, .ref amv, .ref asl, .ref apl, .ref asw, .int (nI nw), .ref aor, .int (nI nc), .ref aon, .ref atw, .long mx, .long my, .ref aup, .ref alw, .int (nI nm), .long up, .long lo, .long rx, .long ry]))]) (tyC := [(cJ, .long), (cI, .int), (cZ, .boolean)]) ⟨hx, hb, hml, hown, hts⟩ (tX5_isShape l dC dI cJ cI cZ om cd ns apx apy act nb asd amv asl apl asw nw aor nc aon atw aup alw nm mx my up lo rx ry si) (cwV 1 hts gX5_point_X5_isShape rfl rfl rfl (by decide +kernel) ⟨Nat.le_of_ble_eq_true rfl, Nat.le_of_ble_eq_true rfl⟩) (kPick (isC := [0]) hP rfl) (hK.sub [0, 1, 2] rfl) rfl rfl rfl rfl hl.1 (Nat.le_of_ble_eq_true rfl) dX5_point_3 ⟨Nat.le_of_ble_eq_true rfl, Nat.le_of_ble_eq_true rfl⟩ ?_
  refine lv_if_ne (tgt := 13) hx hb dX5_point_6 (by decide) (fun c6 => ?_) (fun c6 => ?_)
  · replace c6 := bI_n c6; replace c6 := of_decide_eq_true c6
    exact absurd c6 hbad
  · replace c6 := bI_0 c6; replace c6 := of_decide_eq_false c6
    refine lv_iconst (v := (nI 1)) hx hb dX5_point_9 (by decide) ?_
    refine lv_goto (tgt := 48) hx hb dX5_point_10 (by decide) ?_
    refine va_put (D := (dC, dI)) (ci := 5) (v := .int (nI 1)) (ty := .int) (C := RX5) (T := TX5) (N := 25) hx hb hts hi5 tyX5 tyX5_ok nmX5 hown hK hP hD hS 0 rfl rfl 0 (by decide) f54 (fun _ h9 => h9) rfl (by decide +kernel) rfl rfl (Nat.le_of_ble_eq_true rfl) dX5_point_48 (fun H locs hP hD hS => ?_)
    have hP : va_P (dC, dI) vwCl [(om, .inr (5, [.int (nI 1), .int (nI ns), .ref apx, .ref apy, .ref act, .int (nI nb), .ref asd, .ref amv, .ref asl, .ref apl, .ref asw, .int (nI nw), .ref aor, .int (nI nc), .ref aon, .ref atw, .long mx, .long my, .ref aup, .ref alw, .int (nI nm), .long up, .long lo, .long rx, .long ry])), (apx, .inl (cJ, 256, .inr (.inl fpx))), (apy, .inl (cJ, 256, .inr (.inl fpy))), (act, .inl (cI, 16, .inl (nF ct)))] H := hP
    have hD : va_D A [(om, .inr (5, [.int (nI 1), .int (nI ns), .ref apx, .ref apy, .ref act, .int (nI nb), .ref asd, .ref amv, .ref asl, .ref apl, .ref asw, .int (nI nw), .ref aor, .int (nI nc), .ref aon, .ref atw, .long mx, .long my, .ref aup, .ref alw, .int (nI nm), .long up, .long lo, .long rx, .long ry])), (apx, .inl (cJ, 256, .inr (.inl fpx))), (apy, .inl (cJ, 256, .inr (.inl fpy))), (act, .inl (cI, 16, .inl (nF ct)))] := hD
    refine lv_aload_n hx hb dX5_point_51 rfl (lv_at hl 0 rfl) ?_
    refine va_get (D := (dC, dI)) (ci := 5) (v := .int (nI 1)) (C := RX5) (T := TX5) (N := 25) hx hb hts hi5 hown hK hP 0 rfl rfl 0 (by decide) f54 (fun _ h9 => h9) rfl dX5_point_52 ?_
    refine lv_if_le (tgt := 60) hx hb dX5_point_55 (by decide) (fun c55 => ?_) (fun c55 => ?_)
    · skip
      exact absurd c55 (by decide)
    · rw [← nI_0, nI_leI (by omega) (by omega), Nat.not_le] at c55
      refine lv_iconst (v := (nI 0)) hx hb dX5_point_58 (by decide) ?_
      exact kEz hx hb hr hlocks hP hK hD hS dX5_point_59 rfl

set_option maxHeartbeats 4000000 in
set_option maxRecDepth 100000 in
theorem tX5_point_e2 (l : Launch) (dC : Nat → ClassId) (dI : Nat → Nat → Nat) (cJ cI cZ : ClassId) (om cd ns apx apy act nb asd amv asl apl asw nw aor nc aon atw aup alw nm : Nat) (mx my up lo rx ry : Int64) (fpx : Nat → Int64) (fpy : Nat → Int64) (ct : Nat → Nat) (s_ : Nat) (x y : Int64) (hs : s_ < ns) (hn : ns ≤ 16) (hc : ct s_ = 16) : MMi l yX5_point wsX5_point { frames := 1, cells := 0, slots := 0, locals := 21 } [.ref om, .int (nI s_), .long x, .long y] (dC, dI) [(om, .inr (5, [.int (nI cd), .int (nI ns), .ref apx, .ref apy, .ref act, .int (nI nb), .ref asd, .ref amv, .ref asl, .ref apl, .ref asw, .int (nI nw), .ref aor, .int (nI nc), .ref aon, .ref atw, .long mx, .long my, .ref aup, .ref alw, .int (nI nm), .long up, .long lo, .long rx, .long ry])), (apx, .inl (cJ, 256, .inr (.inl fpx))), (apy, .inl (cJ, 256, .inr (.inl fpy))), (act, .inl (cI, 16, .inl (nF ct)))] [(om, .inr (5, [.int (nI 2), .int (nI ns), .ref apx, .ref apy, .ref act, .int (nI nb), .ref asd, .ref amv, .ref asl, .ref apl, .ref asw, .int (nI nw), .ref aor, .int (nI nc), .ref aon, .ref atw, .long mx, .long my, .ref aup, .ref alw, .int (nI nm), .long up, .long lo, .long rx, .long ry])), (apx, .inl (cJ, 256, .inr (.inl fpx))), (apy, .inl (cJ, 256, .inr (.inl fpy))), (act, .inl (cI, 16, .inl (nF ct)))] [(cJ, .long), (cI, .int), (cZ, .boolean)] (bI false) := by
  intro sz
  refine kOf (cc := cX5_point) (maxL := 7) (ret := (some .boolean)) (by decide) rfl (Nat.le_of_ble_eq_true rfl) ?_
  intro p e s m below meth c hx hb hr hml hts hown hlocks hB ls hl
  obtain ⟨hsz, hP, hK, hD0⟩ := hB
  subst hsz
  have hD := hD0.self (sz := s.heap.size)
  generalize hAe : va_A [(om, .inr (5, [.int (nI cd), .int (nI ns), .ref apx, .ref apy, .ref act, .int (nI nb), .ref asd, .ref amv, .ref asl, .ref apl, .ref asw, .int (nI nw), .ref aor, .int (nI nc), .ref aon, .ref atw, .long mx, .long my, .ref aup, .ref alw, .int (nI nm), .long up, .long lo, .long rx, .long ry])), (apx, .inl (cJ, 256, .inr (.inl fpx))), (apy, .inl (cJ, 256, .inr (.inl fpy))), (act, .inl (cI, 16, .inl (nF ct)))] s.heap.size = A at hD ⊢
  have hA : ∀ q : Nat, s.heap.size ≤ q → A q := fun q h => by rw [← hAe]; exact Or.inr h
  have hS : va_S A s.heap s.heap [] := va_S.rf
  have hl : lv_has ls 7 [(0, .ref om), (1, .int (nI s_)), (2, .long x), (4, .long y)] := hl
  have hi5 : ∀ w ∈ u_ws RX5 TX5 25, w ∈ wsX5_point := by decide +kernel
  have f16 := hts (.fieldLink RX5 16 "SweptBoxesModel" "counts" "[I") (by decide +kernel)
  have f54 := hts (.fieldLink RX5 54 "SweptBoxesModel" "code" "I") (by decide +kernel)
  refine lv_aload_n hx hb dX5_point_0 rfl (lv_at hl 0 rfl) ?_
  refine lv_aload_n hx hb dX5_point_1 rfl (lv_at hl 0 rfl) ?_
  refine lv_iload_n hx hb dX5_point_2 rfl (lv_at hl 1 rfl) ?_
  refine kpVi (q0 := 0) (ci := 5) (As := [.int (nI s_)]) (rest := [.ref om]) (WC := [(om, .inr (5, [.int (nI cd), .int (nI ns), .ref apx, .ref apy, .ref act, .int (nI nb), .ref asd, .ref amv, .ref asl, .ref apl, .ref asw, .int (nI nw), .ref aor, .int (nI nc), .ref aon, .ref atw, .long mx, .long my, .ref aup, .ref alw, .int (nI nm), .long up, .long lo, .long rx, .long ry]))]) (tyC := [(cJ, .long), (cI, .int), (cZ, .boolean)]) ⟨hx, hb, hml, hown, hts⟩ (tX5_isShape l dC dI cJ cI cZ om cd ns apx apy act nb asd amv asl apl asw nw aor nc aon atw aup alw nm mx my up lo rx ry (nI s_)) (cwV 1 hts gX5_point_X5_isShape rfl rfl rfl (by decide +kernel) ⟨Nat.le_of_ble_eq_true rfl, Nat.le_of_ble_eq_true rfl⟩) (kPick (isC := [0]) hP rfl) (hK.sub [0, 1, 2] rfl) rfl rfl rfl rfl hl.1 (Nat.le_of_ble_eq_true rfl) dX5_point_3 ⟨Nat.le_of_ble_eq_true rfl, Nat.le_of_ble_eq_true rfl⟩ ?_
  refine lv_if_ne (tgt := 13) hx hb dX5_point_6 (by decide) (fun c6 => ?_) (fun c6 => ?_)
  · replace c6 := bI_n c6; replace c6 := of_decide_eq_true c6
    refine lv_aload_n hx hb dX5_point_13 rfl (lv_at hl 0 rfl) ?_
    refine va_get (D := (dC, dI)) (ci := 5) (v := .ref act) (C := RX5) (T := TX5) (N := 25) hx hb hts hi5 hown hK hP 0 rfl rfl 4 (by decide) f16 (fun _ h9 => h9) rfl dX5_point_14 ?_
    refine lv_iload_n hx hb dX5_point_17 rfl (lv_at hl 1 rfl) ?_
    refine va_iald hx hb hK hP 3 1 rfl rfl (vp_in_nI (show s_ < 16 by omega) (by omega)) dX5_point_18 ?_
    rw [show (nI s_).toNatClampNeg = s_ from nI_clamp (show s_ < 2 ^ 31 by omega)]
    rw [show (nF ct) s_ = (nI (ct s_)) from rfl]
    refine lv_bipush (v := (nI 16)) hx hb dX5_point_19 (by decide) ?_
    refine lv_icmp_ne (tgt := 28) hx hb dX5_point_21 (by decide) (fun c21 => ?_) (fun c21 => ?_)
    · rw [nI_eq (by omega) (by omega)] at c21
      exfalso; omega
    · rw [nI_eq (by omega) (by omega)] at c21
      refine lv_iconst (v := (nI 2)) hx hb dX5_point_24 (by decide) ?_
      refine lv_goto (tgt := 48) hx hb dX5_point_25 (by decide) ?_
      refine va_put (D := (dC, dI)) (ci := 5) (v := .int (nI 2)) (ty := .int) (C := RX5) (T := TX5) (N := 25) hx hb hts hi5 tyX5 tyX5_ok nmX5 hown hK hP hD hS 0 rfl rfl 0 (by decide) f54 (fun _ h9 => h9) rfl (by decide +kernel) rfl rfl (Nat.le_of_ble_eq_true rfl) dX5_point_48 (fun H locs hP hD hS => ?_)
      have hP : va_P (dC, dI) vwCl [(om, .inr (5, [.int (nI 2), .int (nI ns), .ref apx, .ref apy, .ref act, .int (nI nb), .ref asd, .ref amv, .ref asl, .ref apl, .ref asw, .int (nI nw), .ref aor, .int (nI nc), .ref aon, .ref atw, .long mx, .long my, .ref aup, .ref alw, .int (nI nm), .long up, .long lo, .long rx, .long ry])), (apx, .inl (cJ, 256, .inr (.inl fpx))), (apy, .inl (cJ, 256, .inr (.inl fpy))), (act, .inl (cI, 16, .inl (nF ct)))] H := hP
      have hD : va_D A [(om, .inr (5, [.int (nI 2), .int (nI ns), .ref apx, .ref apy, .ref act, .int (nI nb), .ref asd, .ref amv, .ref asl, .ref apl, .ref asw, .int (nI nw), .ref aor, .int (nI nc), .ref aon, .ref atw, .long mx, .long my, .ref aup, .ref alw, .int (nI nm), .long up, .long lo, .long rx, .long ry])), (apx, .inl (cJ, 256, .inr (.inl fpx))), (apy, .inl (cJ, 256, .inr (.inl fpy))), (act, .inl (cI, 16, .inl (nF ct)))] := hD
      refine lv_aload_n hx hb dX5_point_51 rfl (lv_at hl 0 rfl) ?_
      refine va_get (D := (dC, dI)) (ci := 5) (v := .int (nI 2)) (C := RX5) (T := TX5) (N := 25) hx hb hts hi5 hown hK hP 0 rfl rfl 0 (by decide) f54 (fun _ h9 => h9) rfl dX5_point_52 ?_
      refine lv_if_le (tgt := 60) hx hb dX5_point_55 (by decide) (fun c55 => ?_) (fun c55 => ?_)
      · skip
        exact absurd c55 (by decide)
      · rw [← nI_0, nI_leI (by omega) (by omega), Nat.not_le] at c55
        refine lv_iconst (v := (nI 0)) hx hb dX5_point_58 (by decide) ?_
        exact kEz hx hb hr hlocks hP hK hD hS dX5_point_59 rfl
  · replace c6 := bI_0 c6; replace c6 := of_decide_eq_false c6
    exact absurd ⟨nI_pos' (by omega), nI_lt hs (by omega)⟩ c6

set_option maxHeartbeats 4000000 in
set_option maxRecDepth 100000 in
theorem tX5_point_e3 (l : Launch) (dC : Nat → ClassId) (dI : Nat → Nat → Nat) (cJ cI cZ : ClassId) (om cd ns apx apy act nb asd amv asl apl asw nw aor nc aon atw aup alw nm : Nat) (mx my up lo rx ry : Int64) (fpx : Nat → Int64) (fpy : Nat → Int64) (ct : Nat → Nat) (s_ : Nat) (x y : Int64) (hs : s_ < ns) (hn : ns ≤ 16) (hc : ct s_ < 16) (hbad : ¬ ((-10000 ≤ x ∧ x ≤ 10000) ∧ (-10000 ≤ y ∧ y ≤ 10000))) : MMi l yX5_point wsX5_point { frames := 1, cells := 0, slots := 0, locals := 21 } [.ref om, .int (nI s_), .long x, .long y] (dC, dI) [(om, .inr (5, [.int (nI cd), .int (nI ns), .ref apx, .ref apy, .ref act, .int (nI nb), .ref asd, .ref amv, .ref asl, .ref apl, .ref asw, .int (nI nw), .ref aor, .int (nI nc), .ref aon, .ref atw, .long mx, .long my, .ref aup, .ref alw, .int (nI nm), .long up, .long lo, .long rx, .long ry])), (apx, .inl (cJ, 256, .inr (.inl fpx))), (apy, .inl (cJ, 256, .inr (.inl fpy))), (act, .inl (cI, 16, .inl (nF ct)))] [(om, .inr (5, [.int (nI 3), .int (nI ns), .ref apx, .ref apy, .ref act, .int (nI nb), .ref asd, .ref amv, .ref asl, .ref apl, .ref asw, .int (nI nw), .ref aor, .int (nI nc), .ref aon, .ref atw, .long mx, .long my, .ref aup, .ref alw, .int (nI nm), .long up, .long lo, .long rx, .long ry])), (apx, .inl (cJ, 256, .inr (.inl fpx))), (apy, .inl (cJ, 256, .inr (.inl fpy))), (act, .inl (cI, 16, .inl (nF ct)))] [(cJ, .long), (cI, .int), (cZ, .boolean)] (bI false) := by
  intro sz
  refine kOf (cc := cX5_point) (maxL := 7) (ret := (some .boolean)) (by decide) rfl (Nat.le_of_ble_eq_true rfl) ?_
  intro p e s m below meth c hx hb hr hml hts hown hlocks hB ls hl
  obtain ⟨hsz, hP, hK, hD0⟩ := hB
  subst hsz
  have hD := hD0.self (sz := s.heap.size)
  generalize hAe : va_A [(om, .inr (5, [.int (nI cd), .int (nI ns), .ref apx, .ref apy, .ref act, .int (nI nb), .ref asd, .ref amv, .ref asl, .ref apl, .ref asw, .int (nI nw), .ref aor, .int (nI nc), .ref aon, .ref atw, .long mx, .long my, .ref aup, .ref alw, .int (nI nm), .long up, .long lo, .long rx, .long ry])), (apx, .inl (cJ, 256, .inr (.inl fpx))), (apy, .inl (cJ, 256, .inr (.inl fpy))), (act, .inl (cI, 16, .inl (nF ct)))] s.heap.size = A at hD ⊢
  have hA : ∀ q : Nat, s.heap.size ≤ q → A q := fun q h => by rw [← hAe]; exact Or.inr h
  have hS : va_S A s.heap s.heap [] := va_S.rf
  have hl : lv_has ls 7 [(0, .ref om), (1, .int (nI s_)), (2, .long x), (4, .long y)] := hl
  have hi5 : ∀ w ∈ u_ws RX5 TX5 25, w ∈ wsX5_point := by decide +kernel
  have f16 := hts (.fieldLink RX5 16 "SweptBoxesModel" "counts" "[I") (by decide +kernel)
  have f54 := hts (.fieldLink RX5 54 "SweptBoxesModel" "code" "I") (by decide +kernel)
  refine lv_aload_n hx hb dX5_point_0 rfl (lv_at hl 0 rfl) ?_
  refine lv_aload_n hx hb dX5_point_1 rfl (lv_at hl 0 rfl) ?_
  refine lv_iload_n hx hb dX5_point_2 rfl (lv_at hl 1 rfl) ?_
  refine kpVi (q0 := 0) (ci := 5) (As := [.int (nI s_)]) (rest := [.ref om]) (WC := [(om, .inr (5, [.int (nI cd), .int (nI ns), .ref apx, .ref apy, .ref act, .int (nI nb), .ref asd, .ref amv, .ref asl, .ref apl, .ref asw, .int (nI nw), .ref aor, .int (nI nc), .ref aon, .ref atw, .long mx, .long my, .ref aup, .ref alw, .int (nI nm), .long up, .long lo, .long rx, .long ry]))]) (tyC := [(cJ, .long), (cI, .int), (cZ, .boolean)]) ⟨hx, hb, hml, hown, hts⟩ (tX5_isShape l dC dI cJ cI cZ om cd ns apx apy act nb asd amv asl apl asw nw aor nc aon atw aup alw nm mx my up lo rx ry (nI s_)) (cwV 1 hts gX5_point_X5_isShape rfl rfl rfl (by decide +kernel) ⟨Nat.le_of_ble_eq_true rfl, Nat.le_of_ble_eq_true rfl⟩) (kPick (isC := [0]) hP rfl) (hK.sub [0, 1, 2] rfl) rfl rfl rfl rfl hl.1 (Nat.le_of_ble_eq_true rfl) dX5_point_3 ⟨Nat.le_of_ble_eq_true rfl, Nat.le_of_ble_eq_true rfl⟩ ?_
  refine lv_if_ne (tgt := 13) hx hb dX5_point_6 (by decide) (fun c6 => ?_) (fun c6 => ?_)
  · replace c6 := bI_n c6; replace c6 := of_decide_eq_true c6
    refine lv_aload_n hx hb dX5_point_13 rfl (lv_at hl 0 rfl) ?_
    refine va_get (D := (dC, dI)) (ci := 5) (v := .ref act) (C := RX5) (T := TX5) (N := 25) hx hb hts hi5 hown hK hP 0 rfl rfl 4 (by decide) f16 (fun _ h9 => h9) rfl dX5_point_14 ?_
    refine lv_iload_n hx hb dX5_point_17 rfl (lv_at hl 1 rfl) ?_
    refine va_iald hx hb hK hP 3 1 rfl rfl (vp_in_nI (show s_ < 16 by omega) (by omega)) dX5_point_18 ?_
    rw [show (nI s_).toNatClampNeg = s_ from nI_clamp (show s_ < 2 ^ 31 by omega)]
    rw [show (nF ct) s_ = (nI (ct s_)) from rfl]
    refine lv_bipush (v := (nI 16)) hx hb dX5_point_19 (by decide) ?_
    refine lv_icmp_ne (tgt := 28) hx hb dX5_point_21 (by decide) (fun c21 => ?_) (fun c21 => ?_)
    · rw [nI_eq (by omega) (by omega)] at c21
      refine lv_lload_n hx hb dX5_point_28 rfl (lv_at hl 2 rfl) ?_
      refine kpSi (As := [.long x]) (rest := [.ref om]) (WC := []) (tyC := []) ⟨hx, hb, hml, hown, hts⟩ (tX5_isIn l dC dI x) (cwS 1 hts gX5_point_X5_isIn rfl rfl rfl (by decide +kernel) ⟨Nat.le_of_ble_eq_true rfl, Nat.le_of_ble_eq_true rfl⟩) (kPick (isC := []) hP rfl) (hK.sub [] rfl) rfl rfl hl.1 (Nat.le_of_ble_eq_true rfl) dX5_point_29 ⟨Nat.le_of_ble_eq_true rfl, Nat.le_of_ble_eq_true rfl⟩ ?_
      refine lv_if_eq (tgt := 47) hx hb dX5_point_32 (by decide) (fun c32 => ?_) (fun c32 => ?_)
      · replace c32 := bI_0 c32; replace c32 := of_decide_eq_false c32
        refine lv_iconst (v := (nI 3)) hx hb dX5_point_47 (by decide) ?_
        refine va_put (D := (dC, dI)) (ci := 5) (v := .int (nI 3)) (ty := .int) (C := RX5) (T := TX5) (N := 25) hx hb hts hi5 tyX5 tyX5_ok nmX5 hown hK hP hD hS 0 rfl rfl 0 (by decide) f54 (fun _ h9 => h9) rfl (by decide +kernel) rfl rfl (Nat.le_of_ble_eq_true rfl) dX5_point_48 (fun H locs hP hD hS => ?_)
        have hP : va_P (dC, dI) vwCl [(om, .inr (5, [.int (nI 3), .int (nI ns), .ref apx, .ref apy, .ref act, .int (nI nb), .ref asd, .ref amv, .ref asl, .ref apl, .ref asw, .int (nI nw), .ref aor, .int (nI nc), .ref aon, .ref atw, .long mx, .long my, .ref aup, .ref alw, .int (nI nm), .long up, .long lo, .long rx, .long ry])), (apx, .inl (cJ, 256, .inr (.inl fpx))), (apy, .inl (cJ, 256, .inr (.inl fpy))), (act, .inl (cI, 16, .inl (nF ct)))] H := hP
        have hD : va_D A [(om, .inr (5, [.int (nI 3), .int (nI ns), .ref apx, .ref apy, .ref act, .int (nI nb), .ref asd, .ref amv, .ref asl, .ref apl, .ref asw, .int (nI nw), .ref aor, .int (nI nc), .ref aon, .ref atw, .long mx, .long my, .ref aup, .ref alw, .int (nI nm), .long up, .long lo, .long rx, .long ry])), (apx, .inl (cJ, 256, .inr (.inl fpx))), (apy, .inl (cJ, 256, .inr (.inl fpy))), (act, .inl (cI, 16, .inl (nF ct)))] := hD
        refine lv_aload_n hx hb dX5_point_51 rfl (lv_at hl 0 rfl) ?_
        refine va_get (D := (dC, dI)) (ci := 5) (v := .int (nI 3)) (C := RX5) (T := TX5) (N := 25) hx hb hts hi5 hown hK hP 0 rfl rfl 0 (by decide) f54 (fun _ h9 => h9) rfl dX5_point_52 ?_
        refine lv_if_le (tgt := 60) hx hb dX5_point_55 (by decide) (fun c55 => ?_) (fun c55 => ?_)
        · skip
          exact absurd c55 (by decide)
        · rw [← nI_0, nI_leI (by omega) (by omega), Nat.not_le] at c55
          refine lv_iconst (v := (nI 0)) hx hb dX5_point_58 (by decide) ?_
          exact kEz hx hb hr hlocks hP hK hD hS dX5_point_59 rfl
      · replace c32 := bI_n c32; replace c32 := of_decide_eq_true c32
        refine lv_lload hx hb dX5_point_35 (lv_at hl 3 rfl) ?_
        refine kpSi (As := [.long y]) (rest := [.ref om]) (WC := []) (tyC := []) ⟨hx, hb, hml, hown, hts⟩ (tX5_isIn l dC dI y) (cwS 1 hts gX5_point_X5_isIn rfl rfl rfl (by decide +kernel) ⟨Nat.le_of_ble_eq_true rfl, Nat.le_of_ble_eq_true rfl⟩) (kPick (isC := []) hP rfl) (hK.sub [] rfl) rfl rfl hl.1 (Nat.le_of_ble_eq_true rfl) dX5_point_37 ⟨Nat.le_of_ble_eq_true rfl, Nat.le_of_ble_eq_true rfl⟩ ?_
        refine lv_if_eq (tgt := 47) hx hb dX5_point_40 (by decide) (fun c40 => ?_) (fun c40 => ?_)
        · replace c40 := bI_0 c40; replace c40 := of_decide_eq_false c40
          refine lv_iconst (v := (nI 3)) hx hb dX5_point_47 (by decide) ?_
          refine va_put (D := (dC, dI)) (ci := 5) (v := .int (nI 3)) (ty := .int) (C := RX5) (T := TX5) (N := 25) hx hb hts hi5 tyX5 tyX5_ok nmX5 hown hK hP hD hS 0 rfl rfl 0 (by decide) f54 (fun _ h9 => h9) rfl (by decide +kernel) rfl rfl (Nat.le_of_ble_eq_true rfl) dX5_point_48 (fun H locs hP hD hS => ?_)
          have hP : va_P (dC, dI) vwCl [(om, .inr (5, [.int (nI 3), .int (nI ns), .ref apx, .ref apy, .ref act, .int (nI nb), .ref asd, .ref amv, .ref asl, .ref apl, .ref asw, .int (nI nw), .ref aor, .int (nI nc), .ref aon, .ref atw, .long mx, .long my, .ref aup, .ref alw, .int (nI nm), .long up, .long lo, .long rx, .long ry])), (apx, .inl (cJ, 256, .inr (.inl fpx))), (apy, .inl (cJ, 256, .inr (.inl fpy))), (act, .inl (cI, 16, .inl (nF ct)))] H := hP
          have hD : va_D A [(om, .inr (5, [.int (nI 3), .int (nI ns), .ref apx, .ref apy, .ref act, .int (nI nb), .ref asd, .ref amv, .ref asl, .ref apl, .ref asw, .int (nI nw), .ref aor, .int (nI nc), .ref aon, .ref atw, .long mx, .long my, .ref aup, .ref alw, .int (nI nm), .long up, .long lo, .long rx, .long ry])), (apx, .inl (cJ, 256, .inr (.inl fpx))), (apy, .inl (cJ, 256, .inr (.inl fpy))), (act, .inl (cI, 16, .inl (nF ct)))] := hD
          refine lv_aload_n hx hb dX5_point_51 rfl (lv_at hl 0 rfl) ?_
          refine va_get (D := (dC, dI)) (ci := 5) (v := .int (nI 3)) (C := RX5) (T := TX5) (N := 25) hx hb hts hi5 hown hK hP 0 rfl rfl 0 (by decide) f54 (fun _ h9 => h9) rfl dX5_point_52 ?_
          refine lv_if_le (tgt := 60) hx hb dX5_point_55 (by decide) (fun c55 => ?_) (fun c55 => ?_)
          · skip
            exact absurd c55 (by decide)
          · rw [← nI_0, nI_leI (by omega) (by omega), Nat.not_le] at c55
            refine lv_iconst (v := (nI 0)) hx hb dX5_point_58 (by decide) ?_
            exact kEz hx hb hr hlocks hP hK hD hS dX5_point_59 rfl
        · replace c40 := bI_n c40; replace c40 := of_decide_eq_true c40
          exact absurd ⟨c32, c40⟩ hbad
    · rw [nI_eq (by omega) (by omega)] at c21
      exfalso; omega
  · replace c6 := bI_0 c6; replace c6 := of_decide_eq_false c6
    exact absurd ⟨nI_pos' (by omega), nI_lt hs (by omega)⟩ c6

set_option maxHeartbeats 4000000 in
set_option maxRecDepth 100000 in
theorem tX5_point_o (l : Launch) (dC : Nat → ClassId) (dI : Nat → Nat → Nat) (cJ cI cZ : ClassId) (om cd ns apx apy act nb asd amv asl apl asw nw aor nc aon atw aup alw nm : Nat) (mx my up lo rx ry : Int64) (fpx : Nat → Int64) (fpy : Nat → Int64) (ct : Nat → Nat) (s_ : Nat) (x y : Int64) (hs : s_ < ns) (hn : ns ≤ 16) (hc : ct s_ < 16) (hok : (-10000 ≤ x ∧ x ≤ 10000) ∧ (-10000 ≤ y ∧ y ≤ 10000)) : MMi l yX5_point wsX5_point { frames := 3, cells := 0, slots := 0, locals := 95 } [.ref om, .int (nI s_), .long x, .long y] (dC, dI) [(om, .inr (5, [.int (nI cd), .int (nI ns), .ref apx, .ref apy, .ref act, .int (nI nb), .ref asd, .ref amv, .ref asl, .ref apl, .ref asw, .int (nI nw), .ref aor, .int (nI nc), .ref aon, .ref atw, .long mx, .long my, .ref aup, .ref alw, .int (nI nm), .long up, .long lo, .long rx, .long ry])), (apx, .inl (cJ, 256, .inr (.inl fpx))), (apy, .inl (cJ, 256, .inr (.inl fpy))), (act, .inl (cI, 16, .inl (nF ct)))] [(om, .inr (5, [.int (nI 0), .int (nI ns), .ref apx, .ref apy, .ref act, .int (nI nb), .ref asd, .ref amv, .ref asl, .ref apl, .ref asw, .int (nI nw), .ref aor, .int (nI nc), .ref aon, .ref atw, .long mx, .long my, .ref aup, .ref alw, .int (nI nm), .long up, .long lo, .long rx, .long ry])), (apx, .inl (cJ, 256, .inr (.inl (vp_updL fpx ((16 * s_) + (ct s_)) x)))), (apy, .inl (cJ, 256, .inr (.inl (vp_updL fpy ((16 * s_) + (ct s_)) y)))), (act, .inl (cI, 16, .inl (nF (va_up ct s_ ((ct s_) + 1)))))] [(cJ, .long), (cI, .int), (cZ, .boolean)] (bI (pB (¬ mIn fpx fpy false x y (16 * s_) (16 * s_ + ct s_)))) := by
  intro sz
  refine kOf (cc := cX5_point) (maxL := 7) (ret := (some .boolean)) (by decide) rfl (Nat.le_of_ble_eq_true rfl) ?_
  intro p e s m below meth c hx hb hr hml hts hown hlocks hB ls hl
  obtain ⟨hsz, hP, hK, hD0⟩ := hB
  subst hsz
  have hD := hD0.self (sz := s.heap.size)
  generalize hAe : va_A [(om, .inr (5, [.int (nI cd), .int (nI ns), .ref apx, .ref apy, .ref act, .int (nI nb), .ref asd, .ref amv, .ref asl, .ref apl, .ref asw, .int (nI nw), .ref aor, .int (nI nc), .ref aon, .ref atw, .long mx, .long my, .ref aup, .ref alw, .int (nI nm), .long up, .long lo, .long rx, .long ry])), (apx, .inl (cJ, 256, .inr (.inl fpx))), (apy, .inl (cJ, 256, .inr (.inl fpy))), (act, .inl (cI, 16, .inl (nF ct)))] s.heap.size = A at hD ⊢
  have hA : ∀ q : Nat, s.heap.size ≤ q → A q := fun q h => by rw [← hAe]; exact Or.inr h
  have hS : va_S A s.heap s.heap [] := va_S.rf
  have hl : lv_has ls 7 [(0, .ref om), (1, .int (nI s_)), (2, .long x), (4, .long y)] := hl
  have hi5 : ∀ w ∈ u_ws RX5 TX5 25, w ∈ wsX5_point := by decide +kernel
  have f7 := hts (.fieldLink RX5 7 "SweptBoxesModel" "px" "[J") (by decide +kernel)
  have f13 := hts (.fieldLink RX5 13 "SweptBoxesModel" "py" "[J") (by decide +kernel)
  have f16 := hts (.fieldLink RX5 16 "SweptBoxesModel" "counts" "[I") (by decide +kernel)
  have f54 := hts (.fieldLink RX5 54 "SweptBoxesModel" "code" "I") (by decide +kernel)
  refine lv_aload_n hx hb dX5_point_0 rfl (lv_at hl 0 rfl) ?_
  refine lv_aload_n hx hb dX5_point_1 rfl (lv_at hl 0 rfl) ?_
  refine lv_iload_n hx hb dX5_point_2 rfl (lv_at hl 1 rfl) ?_
  refine kpVi (q0 := 0) (ci := 5) (As := [.int (nI s_)]) (rest := [.ref om]) (WC := [(om, .inr (5, [.int (nI cd), .int (nI ns), .ref apx, .ref apy, .ref act, .int (nI nb), .ref asd, .ref amv, .ref asl, .ref apl, .ref asw, .int (nI nw), .ref aor, .int (nI nc), .ref aon, .ref atw, .long mx, .long my, .ref aup, .ref alw, .int (nI nm), .long up, .long lo, .long rx, .long ry]))]) (tyC := [(cJ, .long), (cI, .int), (cZ, .boolean)]) ⟨hx, hb, hml, hown, hts⟩ (tX5_isShape l dC dI cJ cI cZ om cd ns apx apy act nb asd amv asl apl asw nw aor nc aon atw aup alw nm mx my up lo rx ry (nI s_)) (cwV 1 hts gX5_point_X5_isShape rfl rfl rfl (by decide +kernel) ⟨Nat.le_of_ble_eq_true rfl, Nat.le_of_ble_eq_true rfl⟩) (kPick (isC := [0]) hP rfl) (hK.sub [0, 1, 2] rfl) rfl rfl rfl rfl hl.1 (Nat.le_of_ble_eq_true rfl) dX5_point_3 ⟨Nat.le_of_ble_eq_true rfl, Nat.le_of_ble_eq_true rfl⟩ ?_
  refine lv_if_ne (tgt := 13) hx hb dX5_point_6 (by decide) (fun c6 => ?_) (fun c6 => ?_)
  · replace c6 := bI_n c6; replace c6 := of_decide_eq_true c6
    refine lv_aload_n hx hb dX5_point_13 rfl (lv_at hl 0 rfl) ?_
    refine va_get (D := (dC, dI)) (ci := 5) (v := .ref act) (C := RX5) (T := TX5) (N := 25) hx hb hts hi5 hown hK hP 0 rfl rfl 4 (by decide) f16 (fun _ h9 => h9) rfl dX5_point_14 ?_
    refine lv_iload_n hx hb dX5_point_17 rfl (lv_at hl 1 rfl) ?_
    refine va_iald hx hb hK hP 3 1 rfl rfl (vp_in_nI (show s_ < 16 by omega) (by omega)) dX5_point_18 ?_
    rw [show (nI s_).toNatClampNeg = s_ from nI_clamp (show s_ < 2 ^ 31 by omega)]
    rw [show (nF ct) s_ = (nI (ct s_)) from rfl]
    refine lv_bipush (v := (nI 16)) hx hb dX5_point_19 (by decide) ?_
    refine lv_icmp_ne (tgt := 28) hx hb dX5_point_21 (by decide) (fun c21 => ?_) (fun c21 => ?_)
    · rw [nI_eq (by omega) (by omega)] at c21
      refine lv_lload_n hx hb dX5_point_28 rfl (lv_at hl 2 rfl) ?_
      refine kpSi (As := [.long x]) (rest := [.ref om]) (WC := []) (tyC := []) ⟨hx, hb, hml, hown, hts⟩ (tX5_isIn l dC dI x) (cwS 1 hts gX5_point_X5_isIn rfl rfl rfl (by decide +kernel) ⟨Nat.le_of_ble_eq_true rfl, Nat.le_of_ble_eq_true rfl⟩) (kPick (isC := []) hP rfl) (hK.sub [] rfl) rfl rfl hl.1 (Nat.le_of_ble_eq_true rfl) dX5_point_29 ⟨Nat.le_of_ble_eq_true rfl, Nat.le_of_ble_eq_true rfl⟩ ?_
      refine lv_if_eq (tgt := 47) hx hb dX5_point_32 (by decide) (fun c32 => ?_) (fun c32 => ?_)
      · replace c32 := bI_0 c32; replace c32 := of_decide_eq_false c32
        exact absurd hok.1 c32
      · replace c32 := bI_n c32; replace c32 := of_decide_eq_true c32
        refine lv_lload hx hb dX5_point_35 (lv_at hl 3 rfl) ?_
        refine kpSi (As := [.long y]) (rest := [.ref om]) (WC := []) (tyC := []) ⟨hx, hb, hml, hown, hts⟩ (tX5_isIn l dC dI y) (cwS 1 hts gX5_point_X5_isIn rfl rfl rfl (by decide +kernel) ⟨Nat.le_of_ble_eq_true rfl, Nat.le_of_ble_eq_true rfl⟩) (kPick (isC := []) hP rfl) (hK.sub [] rfl) rfl rfl hl.1 (Nat.le_of_ble_eq_true rfl) dX5_point_37 ⟨Nat.le_of_ble_eq_true rfl, Nat.le_of_ble_eq_true rfl⟩ ?_
        refine lv_if_eq (tgt := 47) hx hb dX5_point_40 (by decide) (fun c40 => ?_) (fun c40 => ?_)
        · replace c40 := bI_0 c40; replace c40 := of_decide_eq_false c40
          exact absurd hok.2 c40
        · replace c40 := bI_n c40; replace c40 := of_decide_eq_true c40
          refine lv_iconst (v := (nI 0)) hx hb dX5_point_43 (by decide) ?_
          refine lv_goto (tgt := 48) hx hb dX5_point_44 (by decide) ?_
          refine va_put (D := (dC, dI)) (ci := 5) (v := .int (nI 0)) (ty := .int) (C := RX5) (T := TX5) (N := 25) hx hb hts hi5 tyX5 tyX5_ok nmX5 hown hK hP hD hS 0 rfl rfl 0 (by decide) f54 (fun _ h9 => h9) rfl (by decide +kernel) rfl rfl (Nat.le_of_ble_eq_true rfl) dX5_point_48 (fun H locs hP hD hS => ?_)
          have hP : va_P (dC, dI) vwCl [(om, .inr (5, [.int (nI 0), .int (nI ns), .ref apx, .ref apy, .ref act, .int (nI nb), .ref asd, .ref amv, .ref asl, .ref apl, .ref asw, .int (nI nw), .ref aor, .int (nI nc), .ref aon, .ref atw, .long mx, .long my, .ref aup, .ref alw, .int (nI nm), .long up, .long lo, .long rx, .long ry])), (apx, .inl (cJ, 256, .inr (.inl fpx))), (apy, .inl (cJ, 256, .inr (.inl fpy))), (act, .inl (cI, 16, .inl (nF ct)))] H := hP
          have hD : va_D A [(om, .inr (5, [.int (nI 0), .int (nI ns), .ref apx, .ref apy, .ref act, .int (nI nb), .ref asd, .ref amv, .ref asl, .ref apl, .ref asw, .int (nI nw), .ref aor, .int (nI nc), .ref aon, .ref atw, .long mx, .long my, .ref aup, .ref alw, .int (nI nm), .long up, .long lo, .long rx, .long ry])), (apx, .inl (cJ, 256, .inr (.inl fpx))), (apy, .inl (cJ, 256, .inr (.inl fpy))), (act, .inl (cI, 16, .inl (nF ct)))] := hD
          refine lv_aload_n hx hb dX5_point_51 rfl (lv_at hl 0 rfl) ?_
          refine va_get (D := (dC, dI)) (ci := 5) (v := .int (nI 0)) (C := RX5) (T := TX5) (N := 25) hx hb hts hi5 hown hK hP 0 rfl rfl 0 (by decide) f54 (fun _ h9 => h9) rfl dX5_point_52 ?_
          refine lv_if_le (tgt := 60) hx hb dX5_point_55 (by decide) (fun c55 => ?_) (fun c55 => ?_)
          · rw [← nI_0, nI_leI (by omega) (by omega)] at c55
            refine lv_aload_n hx hb dX5_point_60 rfl (lv_at hl 0 rfl) ?_
            refine lv_iload_n hx hb dX5_point_61 rfl (lv_at hl 1 rfl) ?_
            refine lv_lload_n hx hb dX5_point_62 rfl (lv_at hl 2 rfl) ?_
            refine lv_lload hx hb dX5_point_63 (lv_at hl 3 rfl) ?_
            refine lv_iconst (v := (nI 0)) hx hb dX5_point_65 (by decide) ?_
            refine kpVi (q0 := 0) (ci := 5) (As := [.int (nI s_), .long x, .long y, .int (nI 0)]) (rest := []) (WC := [(om, .inr (5, [.int (nI 0), .int (nI ns), .ref apx, .ref apy, .ref act, .int (nI nb), .ref asd, .ref amv, .ref asl, .ref apl, .ref asw, .int (nI nw), .ref aor, .int (nI nc), .ref aon, .ref atw, .long mx, .long my, .ref aup, .ref alw, .int (nI nm), .long up, .long lo, .long rx, .long ry])), (apx, .inl (cJ, 256, .inr (.inl fpx))), (apy, .inl (cJ, 256, .inr (.inl fpy))), (act, .inl (cI, 16, .inl (nF ct)))]) (tyC := [(cJ, .long), (cI, .int), (cZ, .boolean)]) ⟨hx, hb, hml, hown, hts⟩ (tX5_isInside l dC dI cJ cI cZ om 0 ns apx apy act nb asd amv asl apl asw nw aor nc aon atw aup alw nm mx my up lo rx ry fpx fpy ct s_ x y false (by omega) (by omega)) (cwV 4 hts gX5_point_X5_isInside rfl rfl rfl (by decide +kernel) ⟨Nat.le_of_ble_eq_true rfl, Nat.le_of_ble_eq_true rfl⟩) (kPick (isC := [0, 1, 2, 3]) hP rfl) (hK.sub [0, 1, 2] rfl) rfl rfl rfl rfl hl.1 (Nat.le_of_ble_eq_true rfl) dX5_point_66 ⟨Nat.le_of_ble_eq_true rfl, Nat.le_of_ble_eq_true rfl⟩ ?_
            refine lv_if_ne (tgt := 76) hx hb dX5_point_69 (by decide) (fun c69 => ?_) (fun c69 => ?_)
            · replace c69 := bI_n c69; replace c69 := pB_iff.mp c69
              refine lv_iconst (v := (nI 0)) hx hb dX5_point_76 (by decide) ?_
              refine lv_istore (lv' := [(6, .int (nI 0)), (0, .ref om), (1, .int (nI s_)), (2, .long x), (4, .long y)]) hx hb dX5_point_77 hl (by decide) rfl (fun ls hl => ?_)
              refine lv_aload_n hx hb dX5_point_79 rfl (lv_at hl 1 rfl) ?_
              refine va_get (D := (dC, dI)) (ci := 5) (v := .ref apx) (C := RX5) (T := TX5) (N := 25) hx hb hts hi5 hown hK hP 0 rfl rfl 2 (by decide) f7 (fun _ h9 => h9) rfl dX5_point_80 ?_
              refine lv_bipush (v := (nI 16)) hx hb dX5_point_83 (by decide) ?_
              refine lv_iload_n hx hb dX5_point_85 rfl (lv_at hl 2 rfl) ?_
              refine lv_imul hx hb dX5_point_86 ?_
              rw [show (nI 16) * (nI s_) = (nI (16 * s_)) from pk_mul 16 s_]
              refine lv_aload_n hx hb dX5_point_87 rfl (lv_at hl 1 rfl) ?_
              refine va_get (D := (dC, dI)) (ci := 5) (v := .ref act) (C := RX5) (T := TX5) (N := 25) hx hb hts hi5 hown hK hP 0 rfl rfl 4 (by decide) f16 (fun _ h9 => h9) rfl dX5_point_88 ?_
              refine lv_iload_n hx hb dX5_point_91 rfl (lv_at hl 2 rfl) ?_
              refine va_iald hx hb hK hP 3 1 rfl rfl (vp_in_nI (show s_ < 16 by omega) (by omega)) dX5_point_92 ?_
              rw [show (nI s_).toNatClampNeg = s_ from nI_clamp (show s_ < 2 ^ 31 by omega)]
              rw [show (nF ct) s_ = (nI (ct s_)) from rfl]
              refine lv_iadd hx hb dX5_point_93 ?_
              rw [show (nI (16 * s_)) + (nI (ct s_)) = (nI (((16 * s_)) + ((ct s_)))) from nI_add ((16 * s_)) ((ct s_))]
              refine lv_lload_n hx hb dX5_point_94 rfl (lv_at hl 3 rfl) ?_
              refine va_last hx hb hK hP hD hS 1 0 rfl rfl (vp_in_nI (show (((16 * s_)) + ((ct s_))) < 256 by omega) (by omega)) dX5_point_95 (fun H locs hP hD hS => ?_)
              rw [show (nI (((16 * s_)) + ((ct s_)))).toNatClampNeg = (((16 * s_)) + ((ct s_))) from nI_clamp (show (((16 * s_)) + ((ct s_))) < 2 ^ 31 by omega)] at hP hD
              have hP : va_P (dC, dI) vwCl [(om, .inr (5, [.int (nI 0), .int (nI ns), .ref apx, .ref apy, .ref act, .int (nI nb), .ref asd, .ref amv, .ref asl, .ref apl, .ref asw, .int (nI nw), .ref aor, .int (nI nc), .ref aon, .ref atw, .long mx, .long my, .ref aup, .ref alw, .int (nI nm), .long up, .long lo, .long rx, .long ry])), (apx, .inl (cJ, 256, .inr (.inl (vp_updL fpx ((((16 * s_)) + ((ct s_)))) x)))), (apy, .inl (cJ, 256, .inr (.inl fpy))), (act, .inl (cI, 16, .inl (nF ct)))] H := hP
              have hD : va_D A [(om, .inr (5, [.int (nI 0), .int (nI ns), .ref apx, .ref apy, .ref act, .int (nI nb), .ref asd, .ref amv, .ref asl, .ref apl, .ref asw, .int (nI nw), .ref aor, .int (nI nc), .ref aon, .ref atw, .long mx, .long my, .ref aup, .ref alw, .int (nI nm), .long up, .long lo, .long rx, .long ry])), (apx, .inl (cJ, 256, .inr (.inl (vp_updL fpx ((((16 * s_)) + ((ct s_)))) x)))), (apy, .inl (cJ, 256, .inr (.inl fpy))), (act, .inl (cI, 16, .inl (nF ct)))] := hD
              refine lv_aload_n hx hb dX5_point_96 rfl (lv_at hl 1 rfl) ?_
              refine va_get (D := (dC, dI)) (ci := 5) (v := .ref apy) (C := RX5) (T := TX5) (N := 25) hx hb hts hi5 hown hK hP 0 rfl rfl 3 (by decide) f13 (fun _ h9 => h9) rfl dX5_point_97 ?_
              refine lv_bipush (v := (nI 16)) hx hb dX5_point_100 (by decide) ?_
              refine lv_iload_n hx hb dX5_point_102 rfl (lv_at hl 2 rfl) ?_
              refine lv_imul hx hb dX5_point_103 ?_
              rw [show (nI 16) * (nI s_) = (nI (16 * s_)) from pk_mul 16 s_]
              refine lv_aload_n hx hb dX5_point_104 rfl (lv_at hl 1 rfl) ?_
              refine va_get (D := (dC, dI)) (ci := 5) (v := .ref act) (C := RX5) (T := TX5) (N := 25) hx hb hts hi5 hown hK hP 0 rfl rfl 4 (by decide) f16 (fun _ h9 => h9) rfl dX5_point_105 ?_
              refine lv_iload_n hx hb dX5_point_108 rfl (lv_at hl 2 rfl) ?_
              refine va_iald hx hb hK hP 3 1 rfl rfl (vp_in_nI (show s_ < 16 by omega) (by omega)) dX5_point_109 ?_
              rw [show (nI s_).toNatClampNeg = s_ from nI_clamp (show s_ < 2 ^ 31 by omega)]
              rw [show (nF ct) s_ = (nI (ct s_)) from rfl]
              refine lv_iadd hx hb dX5_point_110 ?_
              rw [show (nI (16 * s_)) + (nI (ct s_)) = (nI (((16 * s_)) + ((ct s_)))) from nI_add ((16 * s_)) ((ct s_))]
              refine lv_lload hx hb dX5_point_111 (lv_at hl 4 rfl) ?_
              refine va_last hx hb hK hP hD hS 2 0 rfl rfl (vp_in_nI (show (((16 * s_)) + ((ct s_))) < 256 by omega) (by omega)) dX5_point_113 (fun H locs hP hD hS => ?_)
              rw [show (nI (((16 * s_)) + ((ct s_)))).toNatClampNeg = (((16 * s_)) + ((ct s_))) from nI_clamp (show (((16 * s_)) + ((ct s_))) < 2 ^ 31 by omega)] at hP hD
              have hP : va_P (dC, dI) vwCl [(om, .inr (5, [.int (nI 0), .int (nI ns), .ref apx, .ref apy, .ref act, .int (nI nb), .ref asd, .ref amv, .ref asl, .ref apl, .ref asw, .int (nI nw), .ref aor, .int (nI nc), .ref aon, .ref atw, .long mx, .long my, .ref aup, .ref alw, .int (nI nm), .long up, .long lo, .long rx, .long ry])), (apx, .inl (cJ, 256, .inr (.inl (vp_updL fpx ((((16 * s_)) + ((ct s_)))) x)))), (apy, .inl (cJ, 256, .inr (.inl (vp_updL fpy ((((16 * s_)) + ((ct s_)))) y)))), (act, .inl (cI, 16, .inl (nF ct)))] H := hP
              have hD : va_D A [(om, .inr (5, [.int (nI 0), .int (nI ns), .ref apx, .ref apy, .ref act, .int (nI nb), .ref asd, .ref amv, .ref asl, .ref apl, .ref asw, .int (nI nw), .ref aor, .int (nI nc), .ref aon, .ref atw, .long mx, .long my, .ref aup, .ref alw, .int (nI nm), .long up, .long lo, .long rx, .long ry])), (apx, .inl (cJ, 256, .inr (.inl (vp_updL fpx ((((16 * s_)) + ((ct s_)))) x)))), (apy, .inl (cJ, 256, .inr (.inl (vp_updL fpy ((((16 * s_)) + ((ct s_)))) y)))), (act, .inl (cI, 16, .inl (nF ct)))] := hD
              refine lv_aload_n hx hb dX5_point_114 rfl (lv_at hl 1 rfl) ?_
              refine va_get (D := (dC, dI)) (ci := 5) (v := .ref act) (C := RX5) (T := TX5) (N := 25) hx hb hts hi5 hown hK hP 0 rfl rfl 4 (by decide) f16 (fun _ h9 => h9) rfl dX5_point_115 ?_
              refine lv_iload_n hx hb dX5_point_118 rfl (lv_at hl 2 rfl) ?_
              refine lv_dup2_11 hx hb dX5_point_119 rfl rfl ?_
              refine va_iald hx hb hK hP 3 1 rfl rfl (vp_in_nI (show s_ < 16 by omega) (by omega)) dX5_point_120 ?_
              rw [show (nI s_).toNatClampNeg = s_ from nI_clamp (show s_ < 2 ^ 31 by omega)]
              rw [show (nF ct) s_ = (nI (ct s_)) from rfl]
              refine lv_iconst (v := (nI 1)) hx hb dX5_point_121 (by decide) ?_
              refine lv_iadd hx hb dX5_point_122 ?_
              rw [show (nI (ct s_)) + (nI 1) = (nI (((ct s_)) + 1)) from nI_add ((ct s_)) 1]
              refine va_iast hx hb hK hP hD hS 3 1 rfl rfl (vp_in_nI (show s_ < 16 by omega) (by omega)) dX5_point_123 (fun H locs hP hD hS => ?_)
              rw [show (nI s_).toNatClampNeg = s_ from nI_clamp (show s_ < 2 ^ 31 by omega)] at hP hD
              rw [show upd (nF ct) s_ (nI (((ct s_)) + 1)) = (nF (va_up ct s_ ((((ct s_)) + 1)))) from nF_upd _ _ _] at hP hD
              have hP : va_P (dC, dI) vwCl [(om, .inr (5, [.int (nI 0), .int (nI ns), .ref apx, .ref apy, .ref act, .int (nI nb), .ref asd, .ref amv, .ref asl, .ref apl, .ref asw, .int (nI nw), .ref aor, .int (nI nc), .ref aon, .ref atw, .long mx, .long my, .ref aup, .ref alw, .int (nI nm), .long up, .long lo, .long rx, .long ry])), (apx, .inl (cJ, 256, .inr (.inl (vp_updL fpx ((((16 * s_)) + ((ct s_)))) x)))), (apy, .inl (cJ, 256, .inr (.inl (vp_updL fpy ((((16 * s_)) + ((ct s_)))) y)))), (act, .inl (cI, 16, .inl (nF (va_up ct s_ ((((ct s_)) + 1))))))] H := hP
              have hD : va_D A [(om, .inr (5, [.int (nI 0), .int (nI ns), .ref apx, .ref apy, .ref act, .int (nI nb), .ref asd, .ref amv, .ref asl, .ref apl, .ref asw, .int (nI nw), .ref aor, .int (nI nc), .ref aon, .ref atw, .long mx, .long my, .ref aup, .ref alw, .int (nI nm), .long up, .long lo, .long rx, .long ry])), (apx, .inl (cJ, 256, .inr (.inl (vp_updL fpx ((((16 * s_)) + ((ct s_)))) x)))), (apy, .inl (cJ, 256, .inr (.inl (vp_updL fpy ((((16 * s_)) + ((ct s_)))) y)))), (act, .inl (cI, 16, .inl (nF (va_up ct s_ ((((ct s_)) + 1))))))] := hD
              refine lv_iload hx hb dX5_point_124 (lv_at hl 0 rfl) ?_
              exact kEz hx hb hr hlocks hP hK hD hS dX5_point_126 (kp0 (fun h => h c69))
            · replace c69 := bI_0 c69; replace c69 := pB_not c69
              refine lv_iconst (v := (nI 1)) hx hb dX5_point_72 (by decide) ?_
              refine lv_goto (tgt := 77) hx hb dX5_point_73 (by decide) ?_
              refine lv_istore (lv' := [(6, .int (nI 1)), (0, .ref om), (1, .int (nI s_)), (2, .long x), (4, .long y)]) hx hb dX5_point_77 hl (by decide) rfl (fun ls hl => ?_)
              refine lv_aload_n hx hb dX5_point_79 rfl (lv_at hl 1 rfl) ?_
              refine va_get (D := (dC, dI)) (ci := 5) (v := .ref apx) (C := RX5) (T := TX5) (N := 25) hx hb hts hi5 hown hK hP 0 rfl rfl 2 (by decide) f7 (fun _ h9 => h9) rfl dX5_point_80 ?_
              refine lv_bipush (v := (nI 16)) hx hb dX5_point_83 (by decide) ?_
              refine lv_iload_n hx hb dX5_point_85 rfl (lv_at hl 2 rfl) ?_
              refine lv_imul hx hb dX5_point_86 ?_
              rw [show (nI 16) * (nI s_) = (nI (16 * s_)) from pk_mul 16 s_]
              refine lv_aload_n hx hb dX5_point_87 rfl (lv_at hl 1 rfl) ?_
              refine va_get (D := (dC, dI)) (ci := 5) (v := .ref act) (C := RX5) (T := TX5) (N := 25) hx hb hts hi5 hown hK hP 0 rfl rfl 4 (by decide) f16 (fun _ h9 => h9) rfl dX5_point_88 ?_
              refine lv_iload_n hx hb dX5_point_91 rfl (lv_at hl 2 rfl) ?_
              refine va_iald hx hb hK hP 3 1 rfl rfl (vp_in_nI (show s_ < 16 by omega) (by omega)) dX5_point_92 ?_
              rw [show (nI s_).toNatClampNeg = s_ from nI_clamp (show s_ < 2 ^ 31 by omega)]
              rw [show (nF ct) s_ = (nI (ct s_)) from rfl]
              refine lv_iadd hx hb dX5_point_93 ?_
              rw [show (nI (16 * s_)) + (nI (ct s_)) = (nI (((16 * s_)) + ((ct s_)))) from nI_add ((16 * s_)) ((ct s_))]
              refine lv_lload_n hx hb dX5_point_94 rfl (lv_at hl 3 rfl) ?_
              refine va_last hx hb hK hP hD hS 1 0 rfl rfl (vp_in_nI (show (((16 * s_)) + ((ct s_))) < 256 by omega) (by omega)) dX5_point_95 (fun H locs hP hD hS => ?_)
              rw [show (nI (((16 * s_)) + ((ct s_)))).toNatClampNeg = (((16 * s_)) + ((ct s_))) from nI_clamp (show (((16 * s_)) + ((ct s_))) < 2 ^ 31 by omega)] at hP hD
              have hP : va_P (dC, dI) vwCl [(om, .inr (5, [.int (nI 0), .int (nI ns), .ref apx, .ref apy, .ref act, .int (nI nb), .ref asd, .ref amv, .ref asl, .ref apl, .ref asw, .int (nI nw), .ref aor, .int (nI nc), .ref aon, .ref atw, .long mx, .long my, .ref aup, .ref alw, .int (nI nm), .long up, .long lo, .long rx, .long ry])), (apx, .inl (cJ, 256, .inr (.inl (vp_updL fpx ((((16 * s_)) + ((ct s_)))) x)))), (apy, .inl (cJ, 256, .inr (.inl fpy))), (act, .inl (cI, 16, .inl (nF ct)))] H := hP
              have hD : va_D A [(om, .inr (5, [.int (nI 0), .int (nI ns), .ref apx, .ref apy, .ref act, .int (nI nb), .ref asd, .ref amv, .ref asl, .ref apl, .ref asw, .int (nI nw), .ref aor, .int (nI nc), .ref aon, .ref atw, .long mx, .long my, .ref aup, .ref alw, .int (nI nm), .long up, .long lo, .long rx, .long ry])), (apx, .inl (cJ, 256, .inr (.inl (vp_updL fpx ((((16 * s_)) + ((ct s_)))) x)))), (apy, .inl (cJ, 256, .inr (.inl fpy))), (act, .inl (cI, 16, .inl (nF ct)))] := hD
              refine lv_aload_n hx hb dX5_point_96 rfl (lv_at hl 1 rfl) ?_
              refine va_get (D := (dC, dI)) (ci := 5) (v := .ref apy) (C := RX5) (T := TX5) (N := 25) hx hb hts hi5 hown hK hP 0 rfl rfl 3 (by decide) f13 (fun _ h9 => h9) rfl dX5_point_97 ?_
              refine lv_bipush (v := (nI 16)) hx hb dX5_point_100 (by decide) ?_
              refine lv_iload_n hx hb dX5_point_102 rfl (lv_at hl 2 rfl) ?_
              refine lv_imul hx hb dX5_point_103 ?_
              rw [show (nI 16) * (nI s_) = (nI (16 * s_)) from pk_mul 16 s_]
              refine lv_aload_n hx hb dX5_point_104 rfl (lv_at hl 1 rfl) ?_
              refine va_get (D := (dC, dI)) (ci := 5) (v := .ref act) (C := RX5) (T := TX5) (N := 25) hx hb hts hi5 hown hK hP 0 rfl rfl 4 (by decide) f16 (fun _ h9 => h9) rfl dX5_point_105 ?_
              refine lv_iload_n hx hb dX5_point_108 rfl (lv_at hl 2 rfl) ?_
              refine va_iald hx hb hK hP 3 1 rfl rfl (vp_in_nI (show s_ < 16 by omega) (by omega)) dX5_point_109 ?_
              rw [show (nI s_).toNatClampNeg = s_ from nI_clamp (show s_ < 2 ^ 31 by omega)]
              rw [show (nF ct) s_ = (nI (ct s_)) from rfl]
              refine lv_iadd hx hb dX5_point_110 ?_
              rw [show (nI (16 * s_)) + (nI (ct s_)) = (nI (((16 * s_)) + ((ct s_)))) from nI_add ((16 * s_)) ((ct s_))]
              refine lv_lload hx hb dX5_point_111 (lv_at hl 4 rfl) ?_
              refine va_last hx hb hK hP hD hS 2 0 rfl rfl (vp_in_nI (show (((16 * s_)) + ((ct s_))) < 256 by omega) (by omega)) dX5_point_113 (fun H locs hP hD hS => ?_)
              rw [show (nI (((16 * s_)) + ((ct s_)))).toNatClampNeg = (((16 * s_)) + ((ct s_))) from nI_clamp (show (((16 * s_)) + ((ct s_))) < 2 ^ 31 by omega)] at hP hD
              have hP : va_P (dC, dI) vwCl [(om, .inr (5, [.int (nI 0), .int (nI ns), .ref apx, .ref apy, .ref act, .int (nI nb), .ref asd, .ref amv, .ref asl, .ref apl, .ref asw, .int (nI nw), .ref aor, .int (nI nc), .ref aon, .ref atw, .long mx, .long my, .ref aup, .ref alw, .int (nI nm), .long up, .long lo, .long rx, .long ry])), (apx, .inl (cJ, 256, .inr (.inl (vp_updL fpx ((((16 * s_)) + ((ct s_)))) x)))), (apy, .inl (cJ, 256, .inr (.inl (vp_updL fpy ((((16 * s_)) + ((ct s_)))) y)))), (act, .inl (cI, 16, .inl (nF ct)))] H := hP
              have hD : va_D A [(om, .inr (5, [.int (nI 0), .int (nI ns), .ref apx, .ref apy, .ref act, .int (nI nb), .ref asd, .ref amv, .ref asl, .ref apl, .ref asw, .int (nI nw), .ref aor, .int (nI nc), .ref aon, .ref atw, .long mx, .long my, .ref aup, .ref alw, .int (nI nm), .long up, .long lo, .long rx, .long ry])), (apx, .inl (cJ, 256, .inr (.inl (vp_updL fpx ((((16 * s_)) + ((ct s_)))) x)))), (apy, .inl (cJ, 256, .inr (.inl (vp_updL fpy ((((16 * s_)) + ((ct s_)))) y)))), (act, .inl (cI, 16, .inl (nF ct)))] := hD
              refine lv_aload_n hx hb dX5_point_114 rfl (lv_at hl 1 rfl) ?_
              refine va_get (D := (dC, dI)) (ci := 5) (v := .ref act) (C := RX5) (T := TX5) (N := 25) hx hb hts hi5 hown hK hP 0 rfl rfl 4 (by decide) f16 (fun _ h9 => h9) rfl dX5_point_115 ?_
              refine lv_iload_n hx hb dX5_point_118 rfl (lv_at hl 2 rfl) ?_
              refine lv_dup2_11 hx hb dX5_point_119 rfl rfl ?_
              refine va_iald hx hb hK hP 3 1 rfl rfl (vp_in_nI (show s_ < 16 by omega) (by omega)) dX5_point_120 ?_
              rw [show (nI s_).toNatClampNeg = s_ from nI_clamp (show s_ < 2 ^ 31 by omega)]
              rw [show (nF ct) s_ = (nI (ct s_)) from rfl]
              refine lv_iconst (v := (nI 1)) hx hb dX5_point_121 (by decide) ?_
              refine lv_iadd hx hb dX5_point_122 ?_
              rw [show (nI (ct s_)) + (nI 1) = (nI (((ct s_)) + 1)) from nI_add ((ct s_)) 1]
              refine va_iast hx hb hK hP hD hS 3 1 rfl rfl (vp_in_nI (show s_ < 16 by omega) (by omega)) dX5_point_123 (fun H locs hP hD hS => ?_)
              rw [show (nI s_).toNatClampNeg = s_ from nI_clamp (show s_ < 2 ^ 31 by omega)] at hP hD
              rw [show upd (nF ct) s_ (nI (((ct s_)) + 1)) = (nF (va_up ct s_ ((((ct s_)) + 1)))) from nF_upd _ _ _] at hP hD
              have hP : va_P (dC, dI) vwCl [(om, .inr (5, [.int (nI 0), .int (nI ns), .ref apx, .ref apy, .ref act, .int (nI nb), .ref asd, .ref amv, .ref asl, .ref apl, .ref asw, .int (nI nw), .ref aor, .int (nI nc), .ref aon, .ref atw, .long mx, .long my, .ref aup, .ref alw, .int (nI nm), .long up, .long lo, .long rx, .long ry])), (apx, .inl (cJ, 256, .inr (.inl (vp_updL fpx ((((16 * s_)) + ((ct s_)))) x)))), (apy, .inl (cJ, 256, .inr (.inl (vp_updL fpy ((((16 * s_)) + ((ct s_)))) y)))), (act, .inl (cI, 16, .inl (nF (va_up ct s_ ((((ct s_)) + 1))))))] H := hP
              have hD : va_D A [(om, .inr (5, [.int (nI 0), .int (nI ns), .ref apx, .ref apy, .ref act, .int (nI nb), .ref asd, .ref amv, .ref asl, .ref apl, .ref asw, .int (nI nw), .ref aor, .int (nI nc), .ref aon, .ref atw, .long mx, .long my, .ref aup, .ref alw, .int (nI nm), .long up, .long lo, .long rx, .long ry])), (apx, .inl (cJ, 256, .inr (.inl (vp_updL fpx ((((16 * s_)) + ((ct s_)))) x)))), (apy, .inl (cJ, 256, .inr (.inl (vp_updL fpy ((((16 * s_)) + ((ct s_)))) y)))), (act, .inl (cI, 16, .inl (nF (va_up ct s_ ((((ct s_)) + 1))))))] := hD
              refine lv_iload hx hb dX5_point_124 (lv_at hl 0 rfl) ?_
              exact kEz hx hb hr hlocks hP hK hD hS dX5_point_126 (kp1 c69)
          · skip
            exact absurd c55 (by decide)
    · rw [nI_eq (by omega) (by omega)] at c21
      exfalso; omega
  · replace c6 := bI_0 c6; replace c6 := of_decide_eq_false c6
    exact absurd ⟨nI_pos' (by omega), nI_lt hs (by omega)⟩ c6
