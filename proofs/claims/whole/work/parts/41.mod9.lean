set_option maxHeartbeats 4000000 in
set_option maxRecDepth 100000 in
theorem tX5_tile_e1 (l : Launch) (dC : Nat → ClassId) (dI : Nat → Nat → Nat) (cJ cI cZ : ClassId) (om cd ns apx apy act nb asd amv asl apl asw nw aor nc aon atw aup alw nm : Nat) (mx my up lo rx ry : Int64) (fsl : Nat → Bool) (fpl : Nat → Int64) (fon : Nat → Int64) (ftw : Nat → Int64) (si sj : Int32) (b : Bool) (hbad : ¬ (0 ≤ si ∧ si < 24 ∧ 0 ≤ sj ∧ sj < 24)) : MMi l yX5_tile wsX5_tile { frames := 1, cells := 0, slots := 0, locals := 21 } [.ref om, .int si, .int sj, .int (bI b)] (dC, dI) [(om, .inr (5, [.int (nI cd), .int (nI ns), .ref apx, .ref apy, .ref act, .int (nI nb), .ref asd, .ref amv, .ref asl, .ref apl, .ref asw, .int (nI nw), .ref aor, .int (nI nc), .ref aon, .ref atw, .long mx, .long my, .ref aup, .ref alw, .int (nI nm), .long up, .long lo, .long rx, .long ry])), (asl, .inl (cZ, 576, .inl (bF fsl))), (apl, .inl (cJ, 4, .inr (.inl fpl))), (aon, .inl (cJ, 4, .inr (.inl fon))), (atw, .inl (cJ, 4, .inr (.inl ftw)))] [(om, .inr (5, [.int (nI 1), .int (nI ns), .ref apx, .ref apy, .ref act, .int (nI nb), .ref asd, .ref amv, .ref asl, .ref apl, .ref asw, .int (nI nw), .ref aor, .int (nI nc), .ref aon, .ref atw, .long mx, .long my, .ref aup, .ref alw, .int (nI nm), .long up, .long lo, .long rx, .long ry])), (asl, .inl (cZ, 576, .inl (bF fsl))), (apl, .inl (cJ, 4, .inr (.inl fpl))), (aon, .inl (cJ, 4, .inr (.inl fon))), (atw, .inl (cJ, 4, .inr (.inl ftw)))] [(cJ, .long), (cI, .int), (cZ, .boolean)] (bI false) := by
  intro sz
  refine kOf (cc := cX5_tile) (maxL := 4) (ret := (some .boolean)) (by decide) rfl (Nat.le_of_ble_eq_true rfl) ?_
  intro p e s m below meth c hx hb hr hml hts hown hlocks hB ls hl
  obtain ⟨hsz, hP, hK, hD0⟩ := hB
  subst hsz
  have hD := hD0.self (sz := s.heap.size)
  generalize hAe : va_A [(om, .inr (5, [.int (nI cd), .int (nI ns), .ref apx, .ref apy, .ref act, .int (nI nb), .ref asd, .ref amv, .ref asl, .ref apl, .ref asw, .int (nI nw), .ref aor, .int (nI nc), .ref aon, .ref atw, .long mx, .long my, .ref aup, .ref alw, .int (nI nm), .long up, .long lo, .long rx, .long ry])), (asl, .inl (cZ, 576, .inl (bF fsl))), (apl, .inl (cJ, 4, .inr (.inl fpl))), (aon, .inl (cJ, 4, .inr (.inl fon))), (atw, .inl (cJ, 4, .inr (.inl ftw)))] s.heap.size = A at hD ⊢
  have hA : ∀ q : Nat, s.heap.size ≤ q → A q := fun q h => by rw [← hAe]; exact Or.inr h
  have hS : va_S A s.heap s.heap [] := va_S.rf
  have hl : lv_has ls 4 [(0, .ref om), (1, .int si), (2, .int sj), (3, .int (bI b))] := hl
  have hi5 : ∀ w ∈ u_ws RX5 TX5 25, w ∈ wsX5_tile := by decide +kernel
  have f54 := hts (.fieldLink RX5 54 "SweptBoxesModel" "code" "I") (by decide +kernel)
  refine lv_aload_n hx hb dX5_tile_0 rfl (lv_at hl 0 rfl) ?_
  refine lv_iload_n hx hb dX5_tile_1 rfl (lv_at hl 1 rfl) ?_
  refine lv_iload_n hx hb dX5_tile_2 rfl (lv_at hl 2 rfl) ?_
  refine kpSi (As := [.int si, .int sj]) (rest := [.ref om]) (WC := []) (tyC := []) ⟨hx, hb, hml, hown, hts⟩ (tX5_isTile l dC dI si sj) (cwS 2 hts gX5_tile_X5_isTile rfl rfl rfl (by decide +kernel) ⟨Nat.le_of_ble_eq_true rfl, Nat.le_of_ble_eq_true rfl⟩) (kPick (isC := []) hP rfl) (hK.sub [] rfl) rfl rfl hl.1 (Nat.le_of_ble_eq_true rfl) dX5_tile_3 ⟨Nat.le_of_ble_eq_true rfl, Nat.le_of_ble_eq_true rfl⟩ ?_
  refine lv_if_eq (tgt := 13) hx hb dX5_tile_6 (by decide) (fun c6 => ?_) (fun c6 => ?_)
  · replace c6 := bI_0 c6; replace c6 := of_decide_eq_false c6
    refine lv_iconst (v := (nI 1)) hx hb dX5_tile_13 (by decide) ?_
    refine va_put (D := (dC, dI)) (ci := 5) (v := .int (nI 1)) (ty := .int) (C := RX5) (T := TX5) (N := 25) hx hb hts hi5 tyX5 tyX5_ok nmX5 hown hK hP hD hS 0 rfl rfl 0 (by decide) f54 (fun _ h9 => h9) rfl (by decide +kernel) rfl rfl (Nat.le_of_ble_eq_true rfl) dX5_tile_14 (fun H locs hP hD hS => ?_)
    have hP : va_P (dC, dI) vwCl [(om, .inr (5, [.int (nI 1), .int (nI ns), .ref apx, .ref apy, .ref act, .int (nI nb), .ref asd, .ref amv, .ref asl, .ref apl, .ref asw, .int (nI nw), .ref aor, .int (nI nc), .ref aon, .ref atw, .long mx, .long my, .ref aup, .ref alw, .int (nI nm), .long up, .long lo, .long rx, .long ry])), (asl, .inl (cZ, 576, .inl (bF fsl))), (apl, .inl (cJ, 4, .inr (.inl fpl))), (aon, .inl (cJ, 4, .inr (.inl fon))), (atw, .inl (cJ, 4, .inr (.inl ftw)))] H := hP
    have hD : va_D A [(om, .inr (5, [.int (nI 1), .int (nI ns), .ref apx, .ref apy, .ref act, .int (nI nb), .ref asd, .ref amv, .ref asl, .ref apl, .ref asw, .int (nI nw), .ref aor, .int (nI nc), .ref aon, .ref atw, .long mx, .long my, .ref aup, .ref alw, .int (nI nm), .long up, .long lo, .long rx, .long ry])), (asl, .inl (cZ, 576, .inl (bF fsl))), (apl, .inl (cJ, 4, .inr (.inl fpl))), (aon, .inl (cJ, 4, .inr (.inl fon))), (atw, .inl (cJ, 4, .inr (.inl ftw)))] := hD
    refine lv_aload_n hx hb dX5_tile_17 rfl (lv_at hl 0 rfl) ?_
    refine va_get (D := (dC, dI)) (ci := 5) (v := .int (nI 1)) (C := RX5) (T := TX5) (N := 25) hx hb hts hi5 hown hK hP 0 rfl rfl 0 (by decide) f54 (fun _ h9 => h9) rfl dX5_tile_18 ?_
    refine lv_if_ne (tgt := 91) hx hb dX5_tile_21 (by decide) (fun c21 => ?_) (fun c21 => ?_)
    · rw [← nI_0, nI_eq (by omega) (by omega)] at c21
      refine lv_aload_n hx hb dX5_tile_91 rfl (lv_at hl 0 rfl) ?_
      refine va_get (D := (dC, dI)) (ci := 5) (v := .int (nI 1)) (C := RX5) (T := TX5) (N := 25) hx hb hts hi5 hown hK hP 0 rfl rfl 0 (by decide) f54 (fun _ h9 => h9) rfl dX5_tile_92 ?_
      refine lv_if_gt (tgt := 113) hx hb dX5_tile_95 (by decide) (fun c95 => ?_) (fun c95 => ?_)
      · rw [← nI_0, nI_ltI (by omega) (by omega)] at c95
        refine lv_iconst (v := (nI 0)) hx hb dX5_tile_113 (by decide) ?_
        exact kEz hx hb hr hlocks hP hK hD hS dX5_tile_114 rfl
      · skip
        exact absurd c95 (by decide)
    · skip
      exact absurd c21 (by decide)
  · replace c6 := bI_n c6; replace c6 := of_decide_eq_true c6
    exact absurd c6 hbad

set_option maxHeartbeats 4000000 in
set_option maxRecDepth 100000 in
theorem tX5_tile_s (l : Launch) (dC : Nat → ClassId) (dI : Nat → Nat → Nat) (cJ cI cZ : ClassId) (om cd ns apx apy act nb asd amv asl apl asw nw aor nc aon atw aup alw nm : Nat) (mx my up lo rx ry : Int64) (fsl : Nat → Bool) (fpl : Nat → Int64) (fon : Nat → Int64) (ftw : Nat → Int64) (i j : Nat) (b : Bool) (hi : i < 24) (hj : j < 24) (hsame : fsl ((24 * j) + i) = b) : MMi l yX5_tile wsX5_tile { frames := 1, cells := 0, slots := 0, locals := 21 } [.ref om, .int (nI i), .int (nI j), .int (bI b)] (dC, dI) [(om, .inr (5, [.int (nI cd), .int (nI ns), .ref apx, .ref apy, .ref act, .int (nI nb), .ref asd, .ref amv, .ref asl, .ref apl, .ref asw, .int (nI nw), .ref aor, .int (nI nc), .ref aon, .ref atw, .long mx, .long my, .ref aup, .ref alw, .int (nI nm), .long up, .long lo, .long rx, .long ry])), (asl, .inl (cZ, 576, .inl (bF fsl))), (apl, .inl (cJ, 4, .inr (.inl fpl))), (aon, .inl (cJ, 4, .inr (.inl fon))), (atw, .inl (cJ, 4, .inr (.inl ftw)))] [(om, .inr (5, [.int (nI 0), .int (nI ns), .ref apx, .ref apy, .ref act, .int (nI nb), .ref asd, .ref amv, .ref asl, .ref apl, .ref asw, .int (nI nw), .ref aor, .int (nI nc), .ref aon, .ref atw, .long mx, .long my, .ref aup, .ref alw, .int (nI nm), .long up, .long lo, .long rx, .long ry])), (asl, .inl (cZ, 576, .inl (bF fsl))), (apl, .inl (cJ, 4, .inr (.inl fpl))), (aon, .inl (cJ, 4, .inr (.inl fon))), (atw, .inl (cJ, 4, .inr (.inl ftw)))] [(cJ, .long), (cI, .int), (cZ, .boolean)] (bI false) := by
  intro sz
  refine kOf (cc := cX5_tile) (maxL := 4) (ret := (some .boolean)) (by decide) rfl (Nat.le_of_ble_eq_true rfl) ?_
  intro p e s m below meth c hx hb hr hml hts hown hlocks hB ls hl
  obtain ⟨hsz, hP, hK, hD0⟩ := hB
  subst hsz
  have hD := hD0.self (sz := s.heap.size)
  generalize hAe : va_A [(om, .inr (5, [.int (nI cd), .int (nI ns), .ref apx, .ref apy, .ref act, .int (nI nb), .ref asd, .ref amv, .ref asl, .ref apl, .ref asw, .int (nI nw), .ref aor, .int (nI nc), .ref aon, .ref atw, .long mx, .long my, .ref aup, .ref alw, .int (nI nm), .long up, .long lo, .long rx, .long ry])), (asl, .inl (cZ, 576, .inl (bF fsl))), (apl, .inl (cJ, 4, .inr (.inl fpl))), (aon, .inl (cJ, 4, .inr (.inl fon))), (atw, .inl (cJ, 4, .inr (.inl ftw)))] s.heap.size = A at hD ⊢
  have hA : ∀ q : Nat, s.heap.size ≤ q → A q := fun q h => by rw [← hAe]; exact Or.inr h
  have hS : va_S A s.heap s.heap [] := va_S.rf
  have hl : lv_has ls 4 [(0, .ref om), (1, .int (nI i)), (2, .int (nI j)), (3, .int (bI b))] := hl
  have hi5 : ∀ w ∈ u_ws RX5 TX5 25, w ∈ wsX5_tile := by decide +kernel
  have f26 := hts (.fieldLink RX5 26 "SweptBoxesModel" "solid" "[Z") (by decide +kernel)
  have f54 := hts (.fieldLink RX5 54 "SweptBoxesModel" "code" "I") (by decide +kernel)
  refine lv_aload_n hx hb dX5_tile_0 rfl (lv_at hl 0 rfl) ?_
  refine lv_iload_n hx hb dX5_tile_1 rfl (lv_at hl 1 rfl) ?_
  refine lv_iload_n hx hb dX5_tile_2 rfl (lv_at hl 2 rfl) ?_
  refine kpSi (As := [.int (nI i), .int (nI j)]) (rest := [.ref om]) (WC := []) (tyC := []) ⟨hx, hb, hml, hown, hts⟩ (tX5_isTile l dC dI (nI i) (nI j)) (cwS 2 hts gX5_tile_X5_isTile rfl rfl rfl (by decide +kernel) ⟨Nat.le_of_ble_eq_true rfl, Nat.le_of_ble_eq_true rfl⟩) (kPick (isC := []) hP rfl) (hK.sub [] rfl) rfl rfl hl.1 (Nat.le_of_ble_eq_true rfl) dX5_tile_3 ⟨Nat.le_of_ble_eq_true rfl, Nat.le_of_ble_eq_true rfl⟩ ?_
  refine lv_if_eq (tgt := 13) hx hb dX5_tile_6 (by decide) (fun c6 => ?_) (fun c6 => ?_)
  · replace c6 := bI_0 c6; replace c6 := of_decide_eq_false c6
    exact absurd ⟨nI_pos' (by omega), (show nI i < nI 24 from nI_lt hi (by decide)), nI_pos' (by omega), (show nI j < nI 24 from nI_lt hj (by decide))⟩ c6
  · replace c6 := bI_n c6; replace c6 := of_decide_eq_true c6
    refine lv_iconst (v := (nI 0)) hx hb dX5_tile_9 (by decide) ?_
    refine lv_goto (tgt := 14) hx hb dX5_tile_10 (by decide) ?_
    refine va_put (D := (dC, dI)) (ci := 5) (v := .int (nI 0)) (ty := .int) (C := RX5) (T := TX5) (N := 25) hx hb hts hi5 tyX5 tyX5_ok nmX5 hown hK hP hD hS 0 rfl rfl 0 (by decide) f54 (fun _ h9 => h9) rfl (by decide +kernel) rfl rfl (Nat.le_of_ble_eq_true rfl) dX5_tile_14 (fun H locs hP hD hS => ?_)
    have hP : va_P (dC, dI) vwCl [(om, .inr (5, [.int (nI 0), .int (nI ns), .ref apx, .ref apy, .ref act, .int (nI nb), .ref asd, .ref amv, .ref asl, .ref apl, .ref asw, .int (nI nw), .ref aor, .int (nI nc), .ref aon, .ref atw, .long mx, .long my, .ref aup, .ref alw, .int (nI nm), .long up, .long lo, .long rx, .long ry])), (asl, .inl (cZ, 576, .inl (bF fsl))), (apl, .inl (cJ, 4, .inr (.inl fpl))), (aon, .inl (cJ, 4, .inr (.inl fon))), (atw, .inl (cJ, 4, .inr (.inl ftw)))] H := hP
    have hD : va_D A [(om, .inr (5, [.int (nI 0), .int (nI ns), .ref apx, .ref apy, .ref act, .int (nI nb), .ref asd, .ref amv, .ref asl, .ref apl, .ref asw, .int (nI nw), .ref aor, .int (nI nc), .ref aon, .ref atw, .long mx, .long my, .ref aup, .ref alw, .int (nI nm), .long up, .long lo, .long rx, .long ry])), (asl, .inl (cZ, 576, .inl (bF fsl))), (apl, .inl (cJ, 4, .inr (.inl fpl))), (aon, .inl (cJ, 4, .inr (.inl fon))), (atw, .inl (cJ, 4, .inr (.inl ftw)))] := hD
    refine lv_aload_n hx hb dX5_tile_17 rfl (lv_at hl 0 rfl) ?_
    refine va_get (D := (dC, dI)) (ci := 5) (v := .int (nI 0)) (C := RX5) (T := TX5) (N := 25) hx hb hts hi5 hown hK hP 0 rfl rfl 0 (by decide) f54 (fun _ h9 => h9) rfl dX5_tile_18 ?_
    refine lv_if_ne (tgt := 91) hx hb dX5_tile_21 (by decide) (fun c21 => ?_) (fun c21 => ?_)
    · skip
      exact absurd c21 (by decide)
    · rw [← nI_0, nI_eq (by omega) (by omega)] at c21
      refine lv_iload_n hx hb dX5_tile_24 rfl (lv_at hl 3 rfl) ?_
      refine lv_if_eq (tgt := 91) hx hb dX5_tile_25 (by decide) (fun c25 => ?_) (fun c25 => ?_)
      · replace c25 := bI_0 c25
        refine lv_aload_n hx hb dX5_tile_91 rfl (lv_at hl 0 rfl) ?_
        refine va_get (D := (dC, dI)) (ci := 5) (v := .int (nI 0)) (C := RX5) (T := TX5) (N := 25) hx hb hts hi5 hown hK hP 0 rfl rfl 0 (by decide) f54 (fun _ h9 => h9) rfl dX5_tile_92 ?_
        refine lv_if_gt (tgt := 113) hx hb dX5_tile_95 (by decide) (fun c95 => ?_) (fun c95 => ?_)
        · skip
          exact absurd c95 (by decide)
        · rw [← nI_0, nI_ltI (by omega) (by omega), Nat.not_lt] at c95
          refine lv_aload_n hx hb dX5_tile_98 rfl (lv_at hl 0 rfl) ?_
          refine va_get (D := (dC, dI)) (ci := 5) (v := .ref asl) (C := RX5) (T := TX5) (N := 25) hx hb hts hi5 hown hK hP 0 rfl rfl 8 (by decide) f26 (fun _ h9 => h9) rfl dX5_tile_99 ?_
          refine lv_bipush (v := (nI 24)) hx hb dX5_tile_102 (by decide) ?_
          refine lv_iload_n hx hb dX5_tile_104 rfl (lv_at hl 2 rfl) ?_
          refine lv_imul hx hb dX5_tile_105 ?_
          rw [show (nI 24) * (nI j) = (nI (24 * j)) from pk_mul 24 j]
          refine lv_iload_n hx hb dX5_tile_106 rfl (lv_at hl 1 rfl) ?_
          refine lv_iadd hx hb dX5_tile_107 ?_
          rw [show (nI (24 * j)) + (nI i) = (nI (((24 * j)) + i)) from nI_add ((24 * j)) i]
          refine va_zald hx hb hK hP 1 2 rfl rfl (vp_in_nI (show (((24 * j)) + i) < 576 by omega) (by omega)) dX5_tile_108 ?_
          rw [show (nI (((24 * j)) + i)).toNatClampNeg = (((24 * j)) + i) from nI_clamp (show (((24 * j)) + i) < 2 ^ 31 by omega)]
          rw [show (bF fsl) ((((24 * j)) + i)) = (bI (fsl ((((24 * j)) + i)))) from rfl]
          refine lv_iload_n hx hb dX5_tile_109 rfl (lv_at hl 3 rfl) ?_
          refine lv_icmp_ne (tgt := 115) hx hb dX5_tile_110 (by decide) (fun c110 => ?_) (fun c110 => ?_)
          · skip
            exact absurd (congrArg bI hsame) c110
          · skip
            refine lv_iconst (v := (nI 0)) hx hb dX5_tile_113 (by decide) ?_
            exact kEz hx hb hr hlocks hP hK hD hS dX5_tile_114 rfl
      · replace c25 := bI_n c25
        refine lv_aload_n hx hb dX5_tile_28 rfl (lv_at hl 0 rfl) ?_
        refine va_get (D := (dC, dI)) (ci := 5) (v := .ref asl) (C := RX5) (T := TX5) (N := 25) hx hb hts hi5 hown hK hP 0 rfl rfl 8 (by decide) f26 (fun _ h9 => h9) rfl dX5_tile_29 ?_
        refine lv_bipush (v := (nI 24)) hx hb dX5_tile_32 (by decide) ?_
        refine lv_iload_n hx hb dX5_tile_34 rfl (lv_at hl 2 rfl) ?_
        refine lv_imul hx hb dX5_tile_35 ?_
        rw [show (nI 24) * (nI j) = (nI (24 * j)) from pk_mul 24 j]
        refine lv_iload_n hx hb dX5_tile_36 rfl (lv_at hl 1 rfl) ?_
        refine lv_iadd hx hb dX5_tile_37 ?_
        rw [show (nI (24 * j)) + (nI i) = (nI (((24 * j)) + i)) from nI_add ((24 * j)) i]
        refine va_zald hx hb hK hP 1 2 rfl rfl (vp_in_nI (show (((24 * j)) + i) < 576 by omega) (by omega)) dX5_tile_38 ?_
        rw [show (nI (((24 * j)) + i)).toNatClampNeg = (((24 * j)) + i) from nI_clamp (show (((24 * j)) + i) < 2 ^ 31 by omega)]
        rw [show (bF fsl) ((((24 * j)) + i)) = (bI (fsl ((((24 * j)) + i)))) from rfl]
        refine lv_if_ne (tgt := 91) hx hb dX5_tile_39 (by decide) (fun c39 => ?_) (fun c39 => ?_)
        · replace c39 := bI_n c39
          refine lv_aload_n hx hb dX5_tile_91 rfl (lv_at hl 0 rfl) ?_
          refine va_get (D := (dC, dI)) (ci := 5) (v := .int (nI 0)) (C := RX5) (T := TX5) (N := 25) hx hb hts hi5 hown hK hP 0 rfl rfl 0 (by decide) f54 (fun _ h9 => h9) rfl dX5_tile_92 ?_
          refine lv_if_gt (tgt := 113) hx hb dX5_tile_95 (by decide) (fun c95 => ?_) (fun c95 => ?_)
          · skip
            exact absurd c95 (by decide)
          · rw [← nI_0, nI_ltI (by omega) (by omega), Nat.not_lt] at c95
            refine lv_aload_n hx hb dX5_tile_98 rfl (lv_at hl 0 rfl) ?_
            refine va_get (D := (dC, dI)) (ci := 5) (v := .ref asl) (C := RX5) (T := TX5) (N := 25) hx hb hts hi5 hown hK hP 0 rfl rfl 8 (by decide) f26 (fun _ h9 => h9) rfl dX5_tile_99 ?_
            refine lv_bipush (v := (nI 24)) hx hb dX5_tile_102 (by decide) ?_
            refine lv_iload_n hx hb dX5_tile_104 rfl (lv_at hl 2 rfl) ?_
            refine lv_imul hx hb dX5_tile_105 ?_
            rw [show (nI 24) * (nI j) = (nI (24 * j)) from pk_mul 24 j]
            refine lv_iload_n hx hb dX5_tile_106 rfl (lv_at hl 1 rfl) ?_
            refine lv_iadd hx hb dX5_tile_107 ?_
            rw [show (nI (24 * j)) + (nI i) = (nI (((24 * j)) + i)) from nI_add ((24 * j)) i]
            refine va_zald hx hb hK hP 1 2 rfl rfl (vp_in_nI (show (((24 * j)) + i) < 576 by omega) (by omega)) dX5_tile_108 ?_
            rw [show (nI (((24 * j)) + i)).toNatClampNeg = (((24 * j)) + i) from nI_clamp (show (((24 * j)) + i) < 2 ^ 31 by omega)]
            rw [show (bF fsl) ((((24 * j)) + i)) = (bI (fsl ((((24 * j)) + i)))) from rfl]
            refine lv_iload_n hx hb dX5_tile_109 rfl (lv_at hl 3 rfl) ?_
            refine lv_icmp_ne (tgt := 115) hx hb dX5_tile_110 (by decide) (fun c110 => ?_) (fun c110 => ?_)
            · skip
              exact absurd (congrArg bI hsame) c110
            · skip
              refine lv_iconst (v := (nI 0)) hx hb dX5_tile_113 (by decide) ?_
              exact kEz hx hb hr hlocks hP hK hD hS dX5_tile_114 rfl
        · replace c39 := bI_0 c39
          exact absurd (c39.symm.trans (hsame.trans c25)) (by decide)

set_option maxHeartbeats 4000000 in
set_option maxRecDepth 100000 in
theorem tX5_tile_f (l : Launch) (dC : Nat → ClassId) (dI : Nat → Nat → Nat) (cJ cI cZ : ClassId) (om cd ns apx apy act nb asd amv asl apl asw nw aor nc aon atw aup alw nm : Nat) (mx my up lo rx ry : Int64) (fsl : Nat → Bool) (fpl : Nat → Int64) (fon : Nat → Int64) (ftw : Nat → Int64) (i j : Nat) (hi : i < 24) (hj : j < 24) (hold : fsl ((24 * j) + i) = true) : MMi l yX5_tile wsX5_tile { frames := 1, cells := 0, slots := 0, locals := 21 } [.ref om, .int (nI i), .int (nI j), .int (bI false)] (dC, dI) [(om, .inr (5, [.int (nI cd), .int (nI ns), .ref apx, .ref apy, .ref act, .int (nI nb), .ref asd, .ref amv, .ref asl, .ref apl, .ref asw, .int (nI nw), .ref aor, .int (nI nc), .ref aon, .ref atw, .long mx, .long my, .ref aup, .ref alw, .int (nI nm), .long up, .long lo, .long rx, .long ry])), (asl, .inl (cZ, 576, .inl (bF fsl))), (apl, .inl (cJ, 4, .inr (.inl fpl))), (aon, .inl (cJ, 4, .inr (.inl fon))), (atw, .inl (cJ, 4, .inr (.inl ftw)))] [(om, .inr (5, [.int (nI 0), .int (nI ns), .ref apx, .ref apy, .ref act, .int (nI nb), .ref asd, .ref amv, .ref asl, .ref apl, .ref asw, .int (nI nw), .ref aor, .int (nI nc), .ref aon, .ref atw, .long mx, .long my, .ref aup, .ref alw, .int (nI nm), .long up, .long lo, .long rx, .long ry])), (asl, .inl (cZ, 576, .inl (bF (va_up fsl ((24 * j) + i) false)))), (apl, .inl (cJ, 4, .inr (.inl fpl))), (aon, .inl (cJ, 4, .inr (.inl fon))), (atw, .inl (cJ, 4, .inr (.inl ftw)))] [(cJ, .long), (cI, .int), (cZ, .boolean)] (bI true) := by
  intro sz
  refine kOf (cc := cX5_tile) (maxL := 4) (ret := (some .boolean)) (by decide) rfl (Nat.le_of_ble_eq_true rfl) ?_
  intro p e s m below meth c hx hb hr hml hts hown hlocks hB ls hl
  obtain ⟨hsz, hP, hK, hD0⟩ := hB
  subst hsz
  have hD := hD0.self (sz := s.heap.size)
  generalize hAe : va_A [(om, .inr (5, [.int (nI cd), .int (nI ns), .ref apx, .ref apy, .ref act, .int (nI nb), .ref asd, .ref amv, .ref asl, .ref apl, .ref asw, .int (nI nw), .ref aor, .int (nI nc), .ref aon, .ref atw, .long mx, .long my, .ref aup, .ref alw, .int (nI nm), .long up, .long lo, .long rx, .long ry])), (asl, .inl (cZ, 576, .inl (bF fsl))), (apl, .inl (cJ, 4, .inr (.inl fpl))), (aon, .inl (cJ, 4, .inr (.inl fon))), (atw, .inl (cJ, 4, .inr (.inl ftw)))] s.heap.size = A at hD ⊢
  have hA : ∀ q : Nat, s.heap.size ≤ q → A q := fun q h => by rw [← hAe]; exact Or.inr h
  have hS : va_S A s.heap s.heap [] := va_S.rf
  have hl : lv_has ls 4 [(0, .ref om), (1, .int (nI i)), (2, .int (nI j)), (3, .int (bI false))] := hl
  have hi5 : ∀ w ∈ u_ws RX5 TX5 25, w ∈ wsX5_tile := by decide +kernel
  have f26 := hts (.fieldLink RX5 26 "SweptBoxesModel" "solid" "[Z") (by decide +kernel)
  have f54 := hts (.fieldLink RX5 54 "SweptBoxesModel" "code" "I") (by decide +kernel)
  refine lv_aload_n hx hb dX5_tile_0 rfl (lv_at hl 0 rfl) ?_
  refine lv_iload_n hx hb dX5_tile_1 rfl (lv_at hl 1 rfl) ?_
  refine lv_iload_n hx hb dX5_tile_2 rfl (lv_at hl 2 rfl) ?_
  refine kpSi (As := [.int (nI i), .int (nI j)]) (rest := [.ref om]) (WC := []) (tyC := []) ⟨hx, hb, hml, hown, hts⟩ (tX5_isTile l dC dI (nI i) (nI j)) (cwS 2 hts gX5_tile_X5_isTile rfl rfl rfl (by decide +kernel) ⟨Nat.le_of_ble_eq_true rfl, Nat.le_of_ble_eq_true rfl⟩) (kPick (isC := []) hP rfl) (hK.sub [] rfl) rfl rfl hl.1 (Nat.le_of_ble_eq_true rfl) dX5_tile_3 ⟨Nat.le_of_ble_eq_true rfl, Nat.le_of_ble_eq_true rfl⟩ ?_
  refine lv_if_eq (tgt := 13) hx hb dX5_tile_6 (by decide) (fun c6 => ?_) (fun c6 => ?_)
  · replace c6 := bI_0 c6; replace c6 := of_decide_eq_false c6
    exact absurd ⟨nI_pos' (by omega), (show nI i < nI 24 from nI_lt hi (by decide)), nI_pos' (by omega), (show nI j < nI 24 from nI_lt hj (by decide))⟩ c6
  · replace c6 := bI_n c6; replace c6 := of_decide_eq_true c6
    refine lv_iconst (v := (nI 0)) hx hb dX5_tile_9 (by decide) ?_
    refine lv_goto (tgt := 14) hx hb dX5_tile_10 (by decide) ?_
    refine va_put (D := (dC, dI)) (ci := 5) (v := .int (nI 0)) (ty := .int) (C := RX5) (T := TX5) (N := 25) hx hb hts hi5 tyX5 tyX5_ok nmX5 hown hK hP hD hS 0 rfl rfl 0 (by decide) f54 (fun _ h9 => h9) rfl (by decide +kernel) rfl rfl (Nat.le_of_ble_eq_true rfl) dX5_tile_14 (fun H locs hP hD hS => ?_)
    have hP : va_P (dC, dI) vwCl [(om, .inr (5, [.int (nI 0), .int (nI ns), .ref apx, .ref apy, .ref act, .int (nI nb), .ref asd, .ref amv, .ref asl, .ref apl, .ref asw, .int (nI nw), .ref aor, .int (nI nc), .ref aon, .ref atw, .long mx, .long my, .ref aup, .ref alw, .int (nI nm), .long up, .long lo, .long rx, .long ry])), (asl, .inl (cZ, 576, .inl (bF fsl))), (apl, .inl (cJ, 4, .inr (.inl fpl))), (aon, .inl (cJ, 4, .inr (.inl fon))), (atw, .inl (cJ, 4, .inr (.inl ftw)))] H := hP
    have hD : va_D A [(om, .inr (5, [.int (nI 0), .int (nI ns), .ref apx, .ref apy, .ref act, .int (nI nb), .ref asd, .ref amv, .ref asl, .ref apl, .ref asw, .int (nI nw), .ref aor, .int (nI nc), .ref aon, .ref atw, .long mx, .long my, .ref aup, .ref alw, .int (nI nm), .long up, .long lo, .long rx, .long ry])), (asl, .inl (cZ, 576, .inl (bF fsl))), (apl, .inl (cJ, 4, .inr (.inl fpl))), (aon, .inl (cJ, 4, .inr (.inl fon))), (atw, .inl (cJ, 4, .inr (.inl ftw)))] := hD
    refine lv_aload_n hx hb dX5_tile_17 rfl (lv_at hl 0 rfl) ?_
    refine va_get (D := (dC, dI)) (ci := 5) (v := .int (nI 0)) (C := RX5) (T := TX5) (N := 25) hx hb hts hi5 hown hK hP 0 rfl rfl 0 (by decide) f54 (fun _ h9 => h9) rfl dX5_tile_18 ?_
    refine lv_if_ne (tgt := 91) hx hb dX5_tile_21 (by decide) (fun c21 => ?_) (fun c21 => ?_)
    · skip
      exact absurd c21 (by decide)
    · rw [← nI_0, nI_eq (by omega) (by omega)] at c21
      refine lv_iload_n hx hb dX5_tile_24 rfl (lv_at hl 3 rfl) ?_
      refine lv_if_eq (tgt := 91) hx hb dX5_tile_25 (by decide) (fun c25 => ?_) (fun c25 => ?_)
      · replace c25 := bI_0 c25
        refine lv_aload_n hx hb dX5_tile_91 rfl (lv_at hl 0 rfl) ?_
        refine va_get (D := (dC, dI)) (ci := 5) (v := .int (nI 0)) (C := RX5) (T := TX5) (N := 25) hx hb hts hi5 hown hK hP 0 rfl rfl 0 (by decide) f54 (fun _ h9 => h9) rfl dX5_tile_92 ?_
        refine lv_if_gt (tgt := 113) hx hb dX5_tile_95 (by decide) (fun c95 => ?_) (fun c95 => ?_)
        · skip
          exact absurd c95 (by decide)
        · rw [← nI_0, nI_ltI (by omega) (by omega), Nat.not_lt] at c95
          refine lv_aload_n hx hb dX5_tile_98 rfl (lv_at hl 0 rfl) ?_
          refine va_get (D := (dC, dI)) (ci := 5) (v := .ref asl) (C := RX5) (T := TX5) (N := 25) hx hb hts hi5 hown hK hP 0 rfl rfl 8 (by decide) f26 (fun _ h9 => h9) rfl dX5_tile_99 ?_
          refine lv_bipush (v := (nI 24)) hx hb dX5_tile_102 (by decide) ?_
          refine lv_iload_n hx hb dX5_tile_104 rfl (lv_at hl 2 rfl) ?_
          refine lv_imul hx hb dX5_tile_105 ?_
          rw [show (nI 24) * (nI j) = (nI (24 * j)) from pk_mul 24 j]
          refine lv_iload_n hx hb dX5_tile_106 rfl (lv_at hl 1 rfl) ?_
          refine lv_iadd hx hb dX5_tile_107 ?_
          rw [show (nI (24 * j)) + (nI i) = (nI (((24 * j)) + i)) from nI_add ((24 * j)) i]
          refine va_zald hx hb hK hP 1 2 rfl rfl (vp_in_nI (show (((24 * j)) + i) < 576 by omega) (by omega)) dX5_tile_108 ?_
          rw [show (nI (((24 * j)) + i)).toNatClampNeg = (((24 * j)) + i) from nI_clamp (show (((24 * j)) + i) < 2 ^ 31 by omega)]
          rw [show (bF fsl) ((((24 * j)) + i)) = (bI (fsl ((((24 * j)) + i)))) from rfl]
          refine lv_iload_n hx hb dX5_tile_109 rfl (lv_at hl 3 rfl) ?_
          refine lv_icmp_ne (tgt := 115) hx hb dX5_tile_110 (by decide) (fun c110 => ?_) (fun c110 => ?_)
          · skip
            refine lv_aload_n hx hb dX5_tile_115 rfl (lv_at hl 0 rfl) ?_
            refine va_get (D := (dC, dI)) (ci := 5) (v := .ref asl) (C := RX5) (T := TX5) (N := 25) hx hb hts hi5 hown hK hP 0 rfl rfl 8 (by decide) f26 (fun _ h9 => h9) rfl dX5_tile_116 ?_
            refine lv_bipush (v := (nI 24)) hx hb dX5_tile_119 (by decide) ?_
            refine lv_iload_n hx hb dX5_tile_121 rfl (lv_at hl 2 rfl) ?_
            refine lv_imul hx hb dX5_tile_122 ?_
            rw [show (nI 24) * (nI j) = (nI (24 * j)) from pk_mul 24 j]
            refine lv_iload_n hx hb dX5_tile_123 rfl (lv_at hl 1 rfl) ?_
            refine lv_iadd hx hb dX5_tile_124 ?_
            rw [show (nI (24 * j)) + (nI i) = (nI (((24 * j)) + i)) from nI_add ((24 * j)) i]
            refine lv_iload_n hx hb dX5_tile_125 rfl (lv_at hl 3 rfl) ?_
            refine va_zast hx hb hK hP hD hS 1 2 rfl rfl (vp_in_nI (show (((24 * j)) + i) < 576 by omega) (by omega)) dX5_tile_126 (fun H locs hP hD hS => ?_)
            rw [show (nI (((24 * j)) + i)).toNatClampNeg = (((24 * j)) + i) from nI_clamp (show (((24 * j)) + i) < 2 ^ 31 by omega)] at hP hD
            rw [show vp_nar .boolean (bI false) = bI false from vp_nar_bI _, show upd (bF fsl) ((((24 * j)) + i)) (bI false) = (bF (va_up fsl ((((24 * j)) + i)) false)) from bF_upd _ _ _] at hP hD
            have hP : va_P (dC, dI) vwCl [(om, .inr (5, [.int (nI 0), .int (nI ns), .ref apx, .ref apy, .ref act, .int (nI nb), .ref asd, .ref amv, .ref asl, .ref apl, .ref asw, .int (nI nw), .ref aor, .int (nI nc), .ref aon, .ref atw, .long mx, .long my, .ref aup, .ref alw, .int (nI nm), .long up, .long lo, .long rx, .long ry])), (asl, .inl (cZ, 576, .inl (bF (va_up fsl ((((24 * j)) + i)) false)))), (apl, .inl (cJ, 4, .inr (.inl fpl))), (aon, .inl (cJ, 4, .inr (.inl fon))), (atw, .inl (cJ, 4, .inr (.inl ftw)))] H := hP
            have hD : va_D A [(om, .inr (5, [.int (nI 0), .int (nI ns), .ref apx, .ref apy, .ref act, .int (nI nb), .ref asd, .ref amv, .ref asl, .ref apl, .ref asw, .int (nI nw), .ref aor, .int (nI nc), .ref aon, .ref atw, .long mx, .long my, .ref aup, .ref alw, .int (nI nm), .long up, .long lo, .long rx, .long ry])), (asl, .inl (cZ, 576, .inl (bF (va_up fsl ((((24 * j)) + i)) false)))), (apl, .inl (cJ, 4, .inr (.inl fpl))), (aon, .inl (cJ, 4, .inr (.inl fon))), (atw, .inl (cJ, 4, .inr (.inl ftw)))] := hD
            refine lv_iconst (v := (nI 1)) hx hb dX5_tile_127 (by decide) ?_
            exact kEz hx hb hr hlocks hP hK hD hS dX5_tile_128 rfl
          · skip
            rw [hold] at c110; exact absurd c110 (by decide)
      · skip
        exact absurd c25 (by decide)

set_option maxHeartbeats 4000000 in
set_option maxRecDepth 100000 in
theorem tX5_tile_e2 (l : Launch) (dC : Nat → ClassId) (dI : Nat → Nat → Nat) (cJ cI cZ : ClassId) (om cd ns apx apy act nb asd amv asl apl asw nw aor nc aon atw aup alw nm : Nat) (mx my up lo rx ry : Int64) (fsl : Nat → Bool) (fpl : Nat → Int64) (fon : Nat → Int64) (ftw : Nat → Int64) (i j : Nat) (hi : i < 24) (hj : j < 24) (hold : fsl ((24 * j) + i) = false) (hov : mComI ((mFour fon (fpl 0) (fpl 1) (fpl 0 + fpl 2) (fpl 1 + fpl 3)) 0) ((mFour fon (fpl 0) (fpl 1) (fpl 0 + fpl 2) (fpl 1 + fpl 3)) 2) ((mFour ftw (nI (16 * i)).toInt64 (nI (16 * j)).toInt64 (nI ((16 * i) + 16)).toInt64 (nI ((16 * j) + 16)).toInt64) 0) ((mFour ftw (nI (16 * i)).toInt64 (nI (16 * j)).toInt64 (nI ((16 * i) + 16)).toInt64 (nI ((16 * j) + 16)).toInt64) 2) 0 0 1 ∧ mComI ((mFour fon (fpl 0) (fpl 1) (fpl 0 + fpl 2) (fpl 1 + fpl 3)) 1) ((mFour fon (fpl 0) (fpl 1) (fpl 0 + fpl 2) (fpl 1 + fpl 3)) 3) ((mFour ftw (nI (16 * i)).toInt64 (nI (16 * j)).toInt64 (nI ((16 * i) + 16)).toInt64 (nI ((16 * j) + 16)).toInt64) 1) ((mFour ftw (nI (16 * i)).toInt64 (nI (16 * j)).toInt64 (nI ((16 * i) + 16)).toInt64 (nI ((16 * j) + 16)).toInt64) 3) 0 0 1) : MMi l yX5_tile wsX5_tile { frames := 2, cells := 0, slots := 0, locals := 65 } [.ref om, .int (nI i), .int (nI j), .int (bI true)] (dC, dI) [(om, .inr (5, [.int (nI cd), .int (nI ns), .ref apx, .ref apy, .ref act, .int (nI nb), .ref asd, .ref amv, .ref asl, .ref apl, .ref asw, .int (nI nw), .ref aor, .int (nI nc), .ref aon, .ref atw, .long mx, .long my, .ref aup, .ref alw, .int (nI nm), .long up, .long lo, .long rx, .long ry])), (asl, .inl (cZ, 576, .inl (bF fsl))), (apl, .inl (cJ, 4, .inr (.inl fpl))), (aon, .inl (cJ, 4, .inr (.inl fon))), (atw, .inl (cJ, 4, .inr (.inl ftw)))] [(om, .inr (5, [.int (nI 2), .int (nI ns), .ref apx, .ref apy, .ref act, .int (nI nb), .ref asd, .ref amv, .ref asl, .ref apl, .ref asw, .int (nI nw), .ref aor, .int (nI nc), .ref aon, .ref atw, .long 0, .long 0, .ref aup, .ref alw, .int (nI nm), .long up, .long lo, .long rx, .long ry])), (asl, .inl (cZ, 576, .inl (bF fsl))), (apl, .inl (cJ, 4, .inr (.inl fpl))), (aon, .inl (cJ, 4, .inr (.inl (mFour fon (fpl 0) (fpl 1) (fpl 0 + fpl 2) (fpl 1 + fpl 3))))), (atw, .inl (cJ, 4, .inr (.inl (mFour ftw (nI (16 * i)).toInt64 (nI (16 * j)).toInt64 (nI ((16 * i) + 16)).toInt64 (nI ((16 * j) + 16)).toInt64))))] [(cJ, .long), (cI, .int), (cZ, .boolean)] (bI false) := by
  intro sz
  refine kOf (cc := cX5_tile) (maxL := 4) (ret := (some .boolean)) (by decide) rfl (Nat.le_of_ble_eq_true rfl) ?_
  intro p e s m below meth c hx hb hr hml hts hown hlocks hB ls hl
  obtain ⟨hsz, hP, hK, hD0⟩ := hB
  subst hsz
  have hD := hD0.self (sz := s.heap.size)
  generalize hAe : va_A [(om, .inr (5, [.int (nI cd), .int (nI ns), .ref apx, .ref apy, .ref act, .int (nI nb), .ref asd, .ref amv, .ref asl, .ref apl, .ref asw, .int (nI nw), .ref aor, .int (nI nc), .ref aon, .ref atw, .long mx, .long my, .ref aup, .ref alw, .int (nI nm), .long up, .long lo, .long rx, .long ry])), (asl, .inl (cZ, 576, .inl (bF fsl))), (apl, .inl (cJ, 4, .inr (.inl fpl))), (aon, .inl (cJ, 4, .inr (.inl fon))), (atw, .inl (cJ, 4, .inr (.inl ftw)))] s.heap.size = A at hD ⊢
  have hA : ∀ q : Nat, s.heap.size ≤ q → A q := fun q h => by rw [← hAe]; exact Or.inr h
  have hS : va_S A s.heap s.heap [] := va_S.rf
  have hl : lv_has ls 4 [(0, .ref om), (1, .int (nI i)), (2, .int (nI j)), (3, .int (bI true))] := hl
  have hi5 : ∀ w ∈ u_ws RX5 TX5 25, w ∈ wsX5_tile := by decide +kernel
  have f26 := hts (.fieldLink RX5 26 "SweptBoxesModel" "solid" "[Z") (by decide +kernel)
  have f30 := hts (.fieldLink RX5 30 "SweptBoxesModel" "player" "[J") (by decide +kernel)
  have f54 := hts (.fieldLink RX5 54 "SweptBoxesModel" "code" "I") (by decide +kernel)
  refine lv_aload_n hx hb dX5_tile_0 rfl (lv_at hl 0 rfl) ?_
  refine lv_iload_n hx hb dX5_tile_1 rfl (lv_at hl 1 rfl) ?_
  refine lv_iload_n hx hb dX5_tile_2 rfl (lv_at hl 2 rfl) ?_
  refine kpSi (As := [.int (nI i), .int (nI j)]) (rest := [.ref om]) (WC := []) (tyC := []) ⟨hx, hb, hml, hown, hts⟩ (tX5_isTile l dC dI (nI i) (nI j)) (cwS 2 hts gX5_tile_X5_isTile rfl rfl rfl (by decide +kernel) ⟨Nat.le_of_ble_eq_true rfl, Nat.le_of_ble_eq_true rfl⟩) (kPick (isC := []) hP rfl) (hK.sub [] rfl) rfl rfl hl.1 (Nat.le_of_ble_eq_true rfl) dX5_tile_3 ⟨Nat.le_of_ble_eq_true rfl, Nat.le_of_ble_eq_true rfl⟩ ?_
  refine lv_if_eq (tgt := 13) hx hb dX5_tile_6 (by decide) (fun c6 => ?_) (fun c6 => ?_)
  · replace c6 := bI_0 c6; replace c6 := of_decide_eq_false c6
    exact absurd ⟨nI_pos' (by omega), (show nI i < nI 24 from nI_lt hi (by decide)), nI_pos' (by omega), (show nI j < nI 24 from nI_lt hj (by decide))⟩ c6
  · replace c6 := bI_n c6; replace c6 := of_decide_eq_true c6
    refine lv_iconst (v := (nI 0)) hx hb dX5_tile_9 (by decide) ?_
    refine lv_goto (tgt := 14) hx hb dX5_tile_10 (by decide) ?_
    refine va_put (D := (dC, dI)) (ci := 5) (v := .int (nI 0)) (ty := .int) (C := RX5) (T := TX5) (N := 25) hx hb hts hi5 tyX5 tyX5_ok nmX5 hown hK hP hD hS 0 rfl rfl 0 (by decide) f54 (fun _ h9 => h9) rfl (by decide +kernel) rfl rfl (Nat.le_of_ble_eq_true rfl) dX5_tile_14 (fun H locs hP hD hS => ?_)
    have hP : va_P (dC, dI) vwCl [(om, .inr (5, [.int (nI 0), .int (nI ns), .ref apx, .ref apy, .ref act, .int (nI nb), .ref asd, .ref amv, .ref asl, .ref apl, .ref asw, .int (nI nw), .ref aor, .int (nI nc), .ref aon, .ref atw, .long mx, .long my, .ref aup, .ref alw, .int (nI nm), .long up, .long lo, .long rx, .long ry])), (asl, .inl (cZ, 576, .inl (bF fsl))), (apl, .inl (cJ, 4, .inr (.inl fpl))), (aon, .inl (cJ, 4, .inr (.inl fon))), (atw, .inl (cJ, 4, .inr (.inl ftw)))] H := hP
    have hD : va_D A [(om, .inr (5, [.int (nI 0), .int (nI ns), .ref apx, .ref apy, .ref act, .int (nI nb), .ref asd, .ref amv, .ref asl, .ref apl, .ref asw, .int (nI nw), .ref aor, .int (nI nc), .ref aon, .ref atw, .long mx, .long my, .ref aup, .ref alw, .int (nI nm), .long up, .long lo, .long rx, .long ry])), (asl, .inl (cZ, 576, .inl (bF fsl))), (apl, .inl (cJ, 4, .inr (.inl fpl))), (aon, .inl (cJ, 4, .inr (.inl fon))), (atw, .inl (cJ, 4, .inr (.inl ftw)))] := hD
    refine lv_aload_n hx hb dX5_tile_17 rfl (lv_at hl 0 rfl) ?_
    refine va_get (D := (dC, dI)) (ci := 5) (v := .int (nI 0)) (C := RX5) (T := TX5) (N := 25) hx hb hts hi5 hown hK hP 0 rfl rfl 0 (by decide) f54 (fun _ h9 => h9) rfl dX5_tile_18 ?_
    refine lv_if_ne (tgt := 91) hx hb dX5_tile_21 (by decide) (fun c21 => ?_) (fun c21 => ?_)
    · skip
      exact absurd c21 (by decide)
    · rw [← nI_0, nI_eq (by omega) (by omega)] at c21
      refine lv_iload_n hx hb dX5_tile_24 rfl (lv_at hl 3 rfl) ?_
      refine lv_if_eq (tgt := 91) hx hb dX5_tile_25 (by decide) (fun c25 => ?_) (fun c25 => ?_)
      · skip
        exact absurd c25 (by decide)
      · replace c25 := bI_n c25
        refine lv_aload_n hx hb dX5_tile_28 rfl (lv_at hl 0 rfl) ?_
        refine va_get (D := (dC, dI)) (ci := 5) (v := .ref asl) (C := RX5) (T := TX5) (N := 25) hx hb hts hi5 hown hK hP 0 rfl rfl 8 (by decide) f26 (fun _ h9 => h9) rfl dX5_tile_29 ?_
        refine lv_bipush (v := (nI 24)) hx hb dX5_tile_32 (by decide) ?_
        refine lv_iload_n hx hb dX5_tile_34 rfl (lv_at hl 2 rfl) ?_
        refine lv_imul hx hb dX5_tile_35 ?_
        rw [show (nI 24) * (nI j) = (nI (24 * j)) from pk_mul 24 j]
        refine lv_iload_n hx hb dX5_tile_36 rfl (lv_at hl 1 rfl) ?_
        refine lv_iadd hx hb dX5_tile_37 ?_
        rw [show (nI (24 * j)) + (nI i) = (nI (((24 * j)) + i)) from nI_add ((24 * j)) i]
        refine va_zald hx hb hK hP 1 2 rfl rfl (vp_in_nI (show (((24 * j)) + i) < 576 by omega) (by omega)) dX5_tile_38 ?_
        rw [show (nI (((24 * j)) + i)).toNatClampNeg = (((24 * j)) + i) from nI_clamp (show (((24 * j)) + i) < 2 ^ 31 by omega)]
        rw [show (bF fsl) ((((24 * j)) + i)) = (bI (fsl ((((24 * j)) + i)))) from rfl]
        refine lv_if_ne (tgt := 91) hx hb dX5_tile_39 (by decide) (fun c39 => ?_) (fun c39 => ?_)
        · replace c39 := bI_n c39
          exact absurd (c39.symm.trans hold) (by decide)
        · replace c39 := bI_0 c39
          refine lv_aload_n hx hb dX5_tile_42 rfl (lv_at hl 0 rfl) ?_
          refine lv_iload_n hx hb dX5_tile_43 rfl (lv_at hl 1 rfl) ?_
          refine lv_iload_n hx hb dX5_tile_44 rfl (lv_at hl 2 rfl) ?_
          refine lv_aload_n hx hb dX5_tile_45 rfl (lv_at hl 0 rfl) ?_
          refine va_get (D := (dC, dI)) (ci := 5) (v := .ref apl) (C := RX5) (T := TX5) (N := 25) hx hb hts hi5 hown hK hP 0 rfl rfl 9 (by decide) f30 (fun _ h9 => h9) rfl dX5_tile_46 ?_
          refine lv_iconst (v := (nI 0)) hx hb dX5_tile_49 (by decide) ?_
          refine va_lald hx hb hK hP 2 0 rfl rfl (vp_in_nI (show 0 < 4 by omega) (by omega)) dX5_tile_50 ?_
          rw [show (nI 0).toNatClampNeg = 0 from nI_clamp (show 0 < 2 ^ 31 by omega)]
          refine lv_aload_n hx hb dX5_tile_51 rfl (lv_at hl 0 rfl) ?_
          refine va_get (D := (dC, dI)) (ci := 5) (v := .ref apl) (C := RX5) (T := TX5) (N := 25) hx hb hts hi5 hown hK hP 0 rfl rfl 9 (by decide) f30 (fun _ h9 => h9) rfl dX5_tile_52 ?_
          refine lv_iconst (v := (nI 1)) hx hb dX5_tile_55 (by decide) ?_
          refine va_lald hx hb hK hP 2 0 rfl rfl (vp_in_nI (show 1 < 4 by omega) (by omega)) dX5_tile_56 ?_
          rw [show (nI 1).toNatClampNeg = 1 from nI_clamp (show 1 < 2 ^ 31 by omega)]
          refine lv_aload_n hx hb dX5_tile_57 rfl (lv_at hl 0 rfl) ?_
          refine va_get (D := (dC, dI)) (ci := 5) (v := .ref apl) (C := RX5) (T := TX5) (N := 25) hx hb hts hi5 hown hK hP 0 rfl rfl 9 (by decide) f30 (fun _ h9 => h9) rfl dX5_tile_58 ?_
          refine lv_iconst (v := (nI 2)) hx hb dX5_tile_61 (by decide) ?_
          refine va_lald hx hb hK hP 2 0 rfl rfl (vp_in_nI (show 2 < 4 by omega) (by omega)) dX5_tile_62 ?_
          rw [show (nI 2).toNatClampNeg = 2 from nI_clamp (show 2 < 2 ^ 31 by omega)]
          refine lv_aload_n hx hb dX5_tile_63 rfl (lv_at hl 0 rfl) ?_
          refine va_get (D := (dC, dI)) (ci := 5) (v := .ref apl) (C := RX5) (T := TX5) (N := 25) hx hb hts hi5 hown hK hP 0 rfl rfl 9 (by decide) f30 (fun _ h9 => h9) rfl dX5_tile_64 ?_
          refine lv_iconst (v := (nI 3)) hx hb dX5_tile_67 (by decide) ?_
          refine va_lald hx hb hK hP 2 0 rfl rfl (vp_in_nI (show 3 < 4 by omega) (by omega)) dX5_tile_68 ?_
          rw [show (nI 3).toNatClampNeg = 3 from nI_clamp (show 3 < 2 ^ 31 by omega)]
          refine kmVv (q0 := 0) (ci := 5) (As := [.int (nI i), .int (nI j), .long (fpl 0), .long (fpl 1), .long (fpl 2), .long (fpl 3)]) (rest := []) (WC := [(om, .inr (5, [.int (nI 0), .int (nI ns), .ref apx, .ref apy, .ref act, .int (nI nb), .ref asd, .ref amv, .ref asl, .ref apl, .ref asw, .int (nI nw), .ref aor, .int (nI nc), .ref aon, .ref atw, .long mx, .long my, .ref aup, .ref alw, .int (nI nm), .long up, .long lo, .long rx, .long ry])), (aon, .inl (cJ, 4, .inr (.inl fon))), (atw, .inl (cJ, 4, .inr (.inl ftw)))]) (W2 := [(om, .inr (5, [.int (nI 0), .int (nI ns), .ref apx, .ref apy, .ref act, .int (nI nb), .ref asd, .ref amv, .ref asl, .ref apl, .ref asw, .int (nI nw), .ref aor, .int (nI nc), .ref aon, .ref atw, .long 0, .long 0, .ref aup, .ref alw, .int (nI nm), .long up, .long lo, .long rx, .long ry])), (aon, .inl (cJ, 4, .inr (.inl (mFour fon (fpl 0) (fpl 1) ((fpl 0) + (fpl 2)) ((fpl 1) + (fpl 3)))))), (atw, .inl (cJ, 4, .inr (.inl (mFour ftw (nI (16 * i)).toInt64 (nI (16 * j)).toInt64 (nI ((16 * i) + 16)).toInt64 (nI ((16 * j) + 16)).toInt64))))]) (WR := [(asl, .inl (cZ, 576, .inl (bF fsl))), (apl, .inl (cJ, 4, .inr (.inl fpl)))]) (WN := [(om, .inr (5, [.int (nI 0), .int (nI ns), .ref apx, .ref apy, .ref act, .int (nI nb), .ref asd, .ref amv, .ref asl, .ref apl, .ref asw, .int (nI nw), .ref aor, .int (nI nc), .ref aon, .ref atw, .long 0, .long 0, .ref aup, .ref alw, .int (nI nm), .long up, .long lo, .long rx, .long ry])), (asl, .inl (cZ, 576, .inl (bF fsl))), (apl, .inl (cJ, 4, .inr (.inl fpl))), (aon, .inl (cJ, 4, .inr (.inl (mFour fon (fpl 0) (fpl 1) ((fpl 0) + (fpl 2)) ((fpl 1) + (fpl 3)))))), (atw, .inl (cJ, 4, .inr (.inl (mFour ftw (nI (16 * i)).toInt64 (nI (16 * j)).toInt64 (nI ((16 * i) + 16)).toInt64 (nI ((16 * j) + 16)).toInt64))))]) (tyC := [(cJ, .long), (cI, .int), (cZ, .boolean)]) (isC := [0, 3, 4]) (isR := [1, 2]) (isN := [2, 0, 1, 3, 4]) (its := [0, 1, 2]) ⟨hx, hb, hml, hown, hts⟩ (tX5_loadTile l dC dI cJ cI cZ om 0 ns apx apy act nb asd amv asl apl asw nw aor nc aon atw aup alw nm mx my up lo rx ry fon ftw i j (fpl 0) (fpl 1) (fpl 2) (fpl 3)) (cwV 6 hts gX5_tile_X5_loadTile rfl rfl rfl (by decide +kernel) ⟨Nat.le_of_ble_eq_true rfl, Nat.le_of_ble_eq_true rfl⟩) hP hD hA hS hK rfl (by decide) rfl (by decide) (by decide) rfl (by decide) rfl rfl rfl rfl rfl hl.1 (Nat.le_of_ble_eq_true rfl) dX5_tile_69 ⟨Nat.le_of_ble_eq_true rfl, Nat.le_of_ble_eq_true rfl⟩ (fun H locs hP hD hS => ?_)
          refine lv_aload_n hx hb dX5_tile_72 rfl (lv_at hl 0 rfl) ?_
          refine lv_aload_n hx hb dX5_tile_73 rfl (lv_at hl 0 rfl) ?_
          refine lv_lconst (v := 0) hx hb dX5_tile_74 (by decide) ?_
          refine lv_lconst (v := 1) hx hb dX5_tile_75 (by decide) ?_
          refine lv_iconst (v := (nI 1)) hx hb dX5_tile_76 (by decide) ?_
          refine kpVi (q0 := 0) (ci := 5) (As := [.long 0, .long 1, .int (nI 1)]) (rest := [.ref om]) (WC := [(om, .inr (5, [.int (nI 0), .int (nI ns), .ref apx, .ref apy, .ref act, .int (nI nb), .ref asd, .ref amv, .ref asl, .ref apl, .ref asw, .int (nI nw), .ref aor, .int (nI nc), .ref aon, .ref atw, .long 0, .long 0, .ref aup, .ref alw, .int (nI nm), .long up, .long lo, .long rx, .long ry])), (aon, .inl (cJ, 4, .inr (.inl (mFour fon (fpl 0) (fpl 1) ((fpl 0) + (fpl 2)) ((fpl 1) + (fpl 3)))))), (atw, .inl (cJ, 4, .inr (.inl (mFour ftw (nI (16 * i)).toInt64 (nI (16 * j)).toInt64 (nI ((16 * i) + 16)).toInt64 (nI ((16 * j) + 16)).toInt64))))]) (tyC := [(cJ, .long), (cI, .int), (cZ, .boolean)]) ⟨hx, hb, hml, hown, hts⟩ (tX5_isAt_t l dC dI cJ cI cZ om 0 ns apx apy act nb asd amv asl apl asw nw aor nc aon atw aup alw nm 0 0 up lo rx ry (mFour fon (fpl 0) (fpl 1) ((fpl 0) + (fpl 2)) ((fpl 1) + (fpl 3))) (mFour ftw (nI (16 * i)).toInt64 (nI (16 * j)).toInt64 (nI ((16 * i) + 16)).toInt64 (nI ((16 * j) + 16)).toInt64) 0 1) (cwV 3 hts gX5_tile_X5_isAt rfl rfl rfl (by decide +kernel) ⟨Nat.le_of_ble_eq_true rfl, Nat.le_of_ble_eq_true rfl⟩) (kPick (isC := [0, 3, 4]) hP rfl) (hK.sub [0, 1, 2] rfl) rfl rfl rfl rfl hl.1 (Nat.le_of_ble_eq_true rfl) dX5_tile_77 ⟨Nat.le_of_ble_eq_true rfl, Nat.le_of_ble_eq_true rfl⟩ ?_
          refine lv_if_eq (tgt := 87) hx hb dX5_tile_80 (by decide) (fun c80 => ?_) (fun c80 => ?_)
          · replace c80 := bI_0 c80; replace c80 := pB_not c80
            exact absurd hov c80
          · replace c80 := bI_n c80; replace c80 := pB_iff.mp c80
            refine lv_iconst (v := (nI 2)) hx hb dX5_tile_83 (by decide) ?_
            refine lv_goto (tgt := 88) hx hb dX5_tile_84 (by decide) ?_
            refine va_put (D := (dC, dI)) (ci := 5) (v := .int (nI 2)) (ty := .int) (C := RX5) (T := TX5) (N := 25) hx hb hts hi5 tyX5 tyX5_ok nmX5 hown hK hP hD hS 0 rfl rfl 0 (by decide) f54 (fun _ h9 => h9) rfl (by decide +kernel) rfl rfl (Nat.le_of_ble_eq_true rfl) dX5_tile_88 (fun H locs hP hD hS => ?_)
            have hP : va_P (dC, dI) vwCl [(om, .inr (5, [.int (nI 2), .int (nI ns), .ref apx, .ref apy, .ref act, .int (nI nb), .ref asd, .ref amv, .ref asl, .ref apl, .ref asw, .int (nI nw), .ref aor, .int (nI nc), .ref aon, .ref atw, .long 0, .long 0, .ref aup, .ref alw, .int (nI nm), .long up, .long lo, .long rx, .long ry])), (asl, .inl (cZ, 576, .inl (bF fsl))), (apl, .inl (cJ, 4, .inr (.inl fpl))), (aon, .inl (cJ, 4, .inr (.inl (mFour fon (fpl 0) (fpl 1) ((fpl 0) + (fpl 2)) ((fpl 1) + (fpl 3)))))), (atw, .inl (cJ, 4, .inr (.inl (mFour ftw (nI (16 * i)).toInt64 (nI (16 * j)).toInt64 (nI ((16 * i) + 16)).toInt64 (nI ((16 * j) + 16)).toInt64))))] H := hP
            have hD : va_D A [(om, .inr (5, [.int (nI 2), .int (nI ns), .ref apx, .ref apy, .ref act, .int (nI nb), .ref asd, .ref amv, .ref asl, .ref apl, .ref asw, .int (nI nw), .ref aor, .int (nI nc), .ref aon, .ref atw, .long 0, .long 0, .ref aup, .ref alw, .int (nI nm), .long up, .long lo, .long rx, .long ry])), (asl, .inl (cZ, 576, .inl (bF fsl))), (apl, .inl (cJ, 4, .inr (.inl fpl))), (aon, .inl (cJ, 4, .inr (.inl (mFour fon (fpl 0) (fpl 1) ((fpl 0) + (fpl 2)) ((fpl 1) + (fpl 3)))))), (atw, .inl (cJ, 4, .inr (.inl (mFour ftw (nI (16 * i)).toInt64 (nI (16 * j)).toInt64 (nI ((16 * i) + 16)).toInt64 (nI ((16 * j) + 16)).toInt64))))] := hD
            refine lv_aload_n hx hb dX5_tile_91 rfl (lv_at hl 0 rfl) ?_
            refine va_get (D := (dC, dI)) (ci := 5) (v := .int (nI 2)) (C := RX5) (T := TX5) (N := 25) hx hb hts hi5 hown hK hP 0 rfl rfl 0 (by decide) f54 (fun _ h9 => h9) rfl dX5_tile_92 ?_
            refine lv_if_gt (tgt := 113) hx hb dX5_tile_95 (by decide) (fun c95 => ?_) (fun c95 => ?_)
            · rw [← nI_0, nI_ltI (by omega) (by omega)] at c95
              refine lv_iconst (v := (nI 0)) hx hb dX5_tile_113 (by decide) ?_
              exact kEz hx hb hr hlocks hP hK hD hS dX5_tile_114 rfl
            · skip
              exact absurd c95 (by decide)

set_option maxHeartbeats 4000000 in
set_option maxRecDepth 100000 in
theorem tX5_tile_t (l : Launch) (dC : Nat → ClassId) (dI : Nat → Nat → Nat) (cJ cI cZ : ClassId) (om cd ns apx apy act nb asd amv asl apl asw nw aor nc aon atw aup alw nm : Nat) (mx my up lo rx ry : Int64) (fsl : Nat → Bool) (fpl : Nat → Int64) (fon : Nat → Int64) (ftw : Nat → Int64) (i j : Nat) (hi : i < 24) (hj : j < 24) (hold : fsl ((24 * j) + i) = false) (hov : ¬ (mComI ((mFour fon (fpl 0) (fpl 1) (fpl 0 + fpl 2) (fpl 1 + fpl 3)) 0) ((mFour fon (fpl 0) (fpl 1) (fpl 0 + fpl 2) (fpl 1 + fpl 3)) 2) ((mFour ftw (nI (16 * i)).toInt64 (nI (16 * j)).toInt64 (nI ((16 * i) + 16)).toInt64 (nI ((16 * j) + 16)).toInt64) 0) ((mFour ftw (nI (16 * i)).toInt64 (nI (16 * j)).toInt64 (nI ((16 * i) + 16)).toInt64 (nI ((16 * j) + 16)).toInt64) 2) 0 0 1 ∧ mComI ((mFour fon (fpl 0) (fpl 1) (fpl 0 + fpl 2) (fpl 1 + fpl 3)) 1) ((mFour fon (fpl 0) (fpl 1) (fpl 0 + fpl 2) (fpl 1 + fpl 3)) 3) ((mFour ftw (nI (16 * i)).toInt64 (nI (16 * j)).toInt64 (nI ((16 * i) + 16)).toInt64 (nI ((16 * j) + 16)).toInt64) 1) ((mFour ftw (nI (16 * i)).toInt64 (nI (16 * j)).toInt64 (nI ((16 * i) + 16)).toInt64 (nI ((16 * j) + 16)).toInt64) 3) 0 0 1)) : MMi l yX5_tile wsX5_tile { frames := 2, cells := 0, slots := 0, locals := 65 } [.ref om, .int (nI i), .int (nI j), .int (bI true)] (dC, dI) [(om, .inr (5, [.int (nI cd), .int (nI ns), .ref apx, .ref apy, .ref act, .int (nI nb), .ref asd, .ref amv, .ref asl, .ref apl, .ref asw, .int (nI nw), .ref aor, .int (nI nc), .ref aon, .ref atw, .long mx, .long my, .ref aup, .ref alw, .int (nI nm), .long up, .long lo, .long rx, .long ry])), (asl, .inl (cZ, 576, .inl (bF fsl))), (apl, .inl (cJ, 4, .inr (.inl fpl))), (aon, .inl (cJ, 4, .inr (.inl fon))), (atw, .inl (cJ, 4, .inr (.inl ftw)))] [(om, .inr (5, [.int (nI 0), .int (nI ns), .ref apx, .ref apy, .ref act, .int (nI nb), .ref asd, .ref amv, .ref asl, .ref apl, .ref asw, .int (nI nw), .ref aor, .int (nI nc), .ref aon, .ref atw, .long 0, .long 0, .ref aup, .ref alw, .int (nI nm), .long up, .long lo, .long rx, .long ry])), (asl, .inl (cZ, 576, .inl (bF (va_up fsl ((24 * j) + i) true)))), (apl, .inl (cJ, 4, .inr (.inl fpl))), (aon, .inl (cJ, 4, .inr (.inl (mFour fon (fpl 0) (fpl 1) (fpl 0 + fpl 2) (fpl 1 + fpl 3))))), (atw, .inl (cJ, 4, .inr (.inl (mFour ftw (nI (16 * i)).toInt64 (nI (16 * j)).toInt64 (nI ((16 * i) + 16)).toInt64 (nI ((16 * j) + 16)).toInt64))))] [(cJ, .long), (cI, .int), (cZ, .boolean)] (bI true) := by
  intro sz
  refine kOf (cc := cX5_tile) (maxL := 4) (ret := (some .boolean)) (by decide) rfl (Nat.le_of_ble_eq_true rfl) ?_
  intro p e s m below meth c hx hb hr hml hts hown hlocks hB ls hl
  obtain ⟨hsz, hP, hK, hD0⟩ := hB
  subst hsz
  have hD := hD0.self (sz := s.heap.size)
  generalize hAe : va_A [(om, .inr (5, [.int (nI cd), .int (nI ns), .ref apx, .ref apy, .ref act, .int (nI nb), .ref asd, .ref amv, .ref asl, .ref apl, .ref asw, .int (nI nw), .ref aor, .int (nI nc), .ref aon, .ref atw, .long mx, .long my, .ref aup, .ref alw, .int (nI nm), .long up, .long lo, .long rx, .long ry])), (asl, .inl (cZ, 576, .inl (bF fsl))), (apl, .inl (cJ, 4, .inr (.inl fpl))), (aon, .inl (cJ, 4, .inr (.inl fon))), (atw, .inl (cJ, 4, .inr (.inl ftw)))] s.heap.size = A at hD ⊢
  have hA : ∀ q : Nat, s.heap.size ≤ q → A q := fun q h => by rw [← hAe]; exact Or.inr h
  have hS : va_S A s.heap s.heap [] := va_S.rf
  have hl : lv_has ls 4 [(0, .ref om), (1, .int (nI i)), (2, .int (nI j)), (3, .int (bI true))] := hl
  have hi5 : ∀ w ∈ u_ws RX5 TX5 25, w ∈ wsX5_tile := by decide +kernel
  have f26 := hts (.fieldLink RX5 26 "SweptBoxesModel" "solid" "[Z") (by decide +kernel)
  have f30 := hts (.fieldLink RX5 30 "SweptBoxesModel" "player" "[J") (by decide +kernel)
  have f54 := hts (.fieldLink RX5 54 "SweptBoxesModel" "code" "I") (by decide +kernel)
  refine lv_aload_n hx hb dX5_tile_0 rfl (lv_at hl 0 rfl) ?_
  refine lv_iload_n hx hb dX5_tile_1 rfl (lv_at hl 1 rfl) ?_
  refine lv_iload_n hx hb dX5_tile_2 rfl (lv_at hl 2 rfl) ?_
  refine kpSi (As := [.int (nI i), .int (nI j)]) (rest := [.ref om]) (WC := []) (tyC := []) ⟨hx, hb, hml, hown, hts⟩ (tX5_isTile l dC dI (nI i) (nI j)) (cwS 2 hts gX5_tile_X5_isTile rfl rfl rfl (by decide +kernel) ⟨Nat.le_of_ble_eq_true rfl, Nat.le_of_ble_eq_true rfl⟩) (kPick (isC := []) hP rfl) (hK.sub [] rfl) rfl rfl hl.1 (Nat.le_of_ble_eq_true rfl) dX5_tile_3 ⟨Nat.le_of_ble_eq_true rfl, Nat.le_of_ble_eq_true rfl⟩ ?_
  refine lv_if_eq (tgt := 13) hx hb dX5_tile_6 (by decide) (fun c6 => ?_) (fun c6 => ?_)
  · replace c6 := bI_0 c6; replace c6 := of_decide_eq_false c6
    exact absurd ⟨nI_pos' (by omega), (show nI i < nI 24 from nI_lt hi (by decide)), nI_pos' (by omega), (show nI j < nI 24 from nI_lt hj (by decide))⟩ c6
  · replace c6 := bI_n c6; replace c6 := of_decide_eq_true c6
    refine lv_iconst (v := (nI 0)) hx hb dX5_tile_9 (by decide) ?_
    refine lv_goto (tgt := 14) hx hb dX5_tile_10 (by decide) ?_
    refine va_put (D := (dC, dI)) (ci := 5) (v := .int (nI 0)) (ty := .int) (C := RX5) (T := TX5) (N := 25) hx hb hts hi5 tyX5 tyX5_ok nmX5 hown hK hP hD hS 0 rfl rfl 0 (by decide) f54 (fun _ h9 => h9) rfl (by decide +kernel) rfl rfl (Nat.le_of_ble_eq_true rfl) dX5_tile_14 (fun H locs hP hD hS => ?_)
    have hP : va_P (dC, dI) vwCl [(om, .inr (5, [.int (nI 0), .int (nI ns), .ref apx, .ref apy, .ref act, .int (nI nb), .ref asd, .ref amv, .ref asl, .ref apl, .ref asw, .int (nI nw), .ref aor, .int (nI nc), .ref aon, .ref atw, .long mx, .long my, .ref aup, .ref alw, .int (nI nm), .long up, .long lo, .long rx, .long ry])), (asl, .inl (cZ, 576, .inl (bF fsl))), (apl, .inl (cJ, 4, .inr (.inl fpl))), (aon, .inl (cJ, 4, .inr (.inl fon))), (atw, .inl (cJ, 4, .inr (.inl ftw)))] H := hP
    have hD : va_D A [(om, .inr (5, [.int (nI 0), .int (nI ns), .ref apx, .ref apy, .ref act, .int (nI nb), .ref asd, .ref amv, .ref asl, .ref apl, .ref asw, .int (nI nw), .ref aor, .int (nI nc), .ref aon, .ref atw, .long mx, .long my, .ref aup, .ref alw, .int (nI nm), .long up, .long lo, .long rx, .long ry])), (asl, .inl (cZ, 576, .inl (bF fsl))), (apl, .inl (cJ, 4, .inr (.inl fpl))), (aon, .inl (cJ, 4, .inr (.inl fon))), (atw, .inl (cJ, 4, .inr (.inl ftw)))] := hD
    refine lv_aload_n hx hb dX5_tile_17 rfl (lv_at hl 0 rfl) ?_
    refine va_get (D := (dC, dI)) (ci := 5) (v := .int (nI 0)) (C := RX5) (T := TX5) (N := 25) hx hb hts hi5 hown hK hP 0 rfl rfl 0 (by decide) f54 (fun _ h9 => h9) rfl dX5_tile_18 ?_
    refine lv_if_ne (tgt := 91) hx hb dX5_tile_21 (by decide) (fun c21 => ?_) (fun c21 => ?_)
    · skip
      exact absurd c21 (by decide)
    · rw [← nI_0, nI_eq (by omega) (by omega)] at c21
      refine lv_iload_n hx hb dX5_tile_24 rfl (lv_at hl 3 rfl) ?_
      refine lv_if_eq (tgt := 91) hx hb dX5_tile_25 (by decide) (fun c25 => ?_) (fun c25 => ?_)
      · skip
        exact absurd c25 (by decide)
      · replace c25 := bI_n c25
        refine lv_aload_n hx hb dX5_tile_28 rfl (lv_at hl 0 rfl) ?_
        refine va_get (D := (dC, dI)) (ci := 5) (v := .ref asl) (C := RX5) (T := TX5) (N := 25) hx hb hts hi5 hown hK hP 0 rfl rfl 8 (by decide) f26 (fun _ h9 => h9) rfl dX5_tile_29 ?_
        refine lv_bipush (v := (nI 24)) hx hb dX5_tile_32 (by decide) ?_
        refine lv_iload_n hx hb dX5_tile_34 rfl (lv_at hl 2 rfl) ?_
        refine lv_imul hx hb dX5_tile_35 ?_
        rw [show (nI 24) * (nI j) = (nI (24 * j)) from pk_mul 24 j]
        refine lv_iload_n hx hb dX5_tile_36 rfl (lv_at hl 1 rfl) ?_
        refine lv_iadd hx hb dX5_tile_37 ?_
        rw [show (nI (24 * j)) + (nI i) = (nI (((24 * j)) + i)) from nI_add ((24 * j)) i]
        refine va_zald hx hb hK hP 1 2 rfl rfl (vp_in_nI (show (((24 * j)) + i) < 576 by omega) (by omega)) dX5_tile_38 ?_
        rw [show (nI (((24 * j)) + i)).toNatClampNeg = (((24 * j)) + i) from nI_clamp (show (((24 * j)) + i) < 2 ^ 31 by omega)]
        rw [show (bF fsl) ((((24 * j)) + i)) = (bI (fsl ((((24 * j)) + i)))) from rfl]
        refine lv_if_ne (tgt := 91) hx hb dX5_tile_39 (by decide) (fun c39 => ?_) (fun c39 => ?_)
        · replace c39 := bI_n c39
          exact absurd (c39.symm.trans hold) (by decide)
        · replace c39 := bI_0 c39
          refine lv_aload_n hx hb dX5_tile_42 rfl (lv_at hl 0 rfl) ?_
          refine lv_iload_n hx hb dX5_tile_43 rfl (lv_at hl 1 rfl) ?_
          refine lv_iload_n hx hb dX5_tile_44 rfl (lv_at hl 2 rfl) ?_
          refine lv_aload_n hx hb dX5_tile_45 rfl (lv_at hl 0 rfl) ?_
          refine va_get (D := (dC, dI)) (ci := 5) (v := .ref apl) (C := RX5) (T := TX5) (N := 25) hx hb hts hi5 hown hK hP 0 rfl rfl 9 (by decide) f30 (fun _ h9 => h9) rfl dX5_tile_46 ?_
          refine lv_iconst (v := (nI 0)) hx hb dX5_tile_49 (by decide) ?_
          refine va_lald hx hb hK hP 2 0 rfl rfl (vp_in_nI (show 0 < 4 by omega) (by omega)) dX5_tile_50 ?_
          rw [show (nI 0).toNatClampNeg = 0 from nI_clamp (show 0 < 2 ^ 31 by omega)]
          refine lv_aload_n hx hb dX5_tile_51 rfl (lv_at hl 0 rfl) ?_
          refine va_get (D := (dC, dI)) (ci := 5) (v := .ref apl) (C := RX5) (T := TX5) (N := 25) hx hb hts hi5 hown hK hP 0 rfl rfl 9 (by decide) f30 (fun _ h9 => h9) rfl dX5_tile_52 ?_
          refine lv_iconst (v := (nI 1)) hx hb dX5_tile_55 (by decide) ?_
          refine va_lald hx hb hK hP 2 0 rfl rfl (vp_in_nI (show 1 < 4 by omega) (by omega)) dX5_tile_56 ?_
          rw [show (nI 1).toNatClampNeg = 1 from nI_clamp (show 1 < 2 ^ 31 by omega)]
          refine lv_aload_n hx hb dX5_tile_57 rfl (lv_at hl 0 rfl) ?_
          refine va_get (D := (dC, dI)) (ci := 5) (v := .ref apl) (C := RX5) (T := TX5) (N := 25) hx hb hts hi5 hown hK hP 0 rfl rfl 9 (by decide) f30 (fun _ h9 => h9) rfl dX5_tile_58 ?_
          refine lv_iconst (v := (nI 2)) hx hb dX5_tile_61 (by decide) ?_
          refine va_lald hx hb hK hP 2 0 rfl rfl (vp_in_nI (show 2 < 4 by omega) (by omega)) dX5_tile_62 ?_
          rw [show (nI 2).toNatClampNeg = 2 from nI_clamp (show 2 < 2 ^ 31 by omega)]
          refine lv_aload_n hx hb dX5_tile_63 rfl (lv_at hl 0 rfl) ?_
          refine va_get (D := (dC, dI)) (ci := 5) (v := .ref apl) (C := RX5) (T := TX5) (N := 25) hx hb hts hi5 hown hK hP 0 rfl rfl 9 (by decide) f30 (fun _ h9 => h9) rfl dX5_tile_64 ?_
          refine lv_iconst (v := (nI 3)) hx hb dX5_tile_67 (by decide) ?_
          refine va_lald hx hb hK hP 2 0 rfl rfl (vp_in_nI (show 3 < 4 by omega) (by omega)) dX5_tile_68 ?_
          rw [show (nI 3).toNatClampNeg = 3 from nI_clamp (show 3 < 2 ^ 31 by omega)]
          refine kmVv (q0 := 0) (ci := 5) (As := [.int (nI i), .int (nI j), .long (fpl 0), .long (fpl 1), .long (fpl 2), .long (fpl 3)]) (rest := []) (WC := [(om, .inr (5, [.int (nI 0), .int (nI ns), .ref apx, .ref apy, .ref act, .int (nI nb), .ref asd, .ref amv, .ref asl, .ref apl, .ref asw, .int (nI nw), .ref aor, .int (nI nc), .ref aon, .ref atw, .long mx, .long my, .ref aup, .ref alw, .int (nI nm), .long up, .long lo, .long rx, .long ry])), (aon, .inl (cJ, 4, .inr (.inl fon))), (atw, .inl (cJ, 4, .inr (.inl ftw)))]) (W2 := [(om, .inr (5, [.int (nI 0), .int (nI ns), .ref apx, .ref apy, .ref act, .int (nI nb), .ref asd, .ref amv, .ref asl, .ref apl, .ref asw, .int (nI nw), .ref aor, .int (nI nc), .ref aon, .ref atw, .long 0, .long 0, .ref aup, .ref alw, .int (nI nm), .long up, .long lo, .long rx, .long ry])), (aon, .inl (cJ, 4, .inr (.inl (mFour fon (fpl 0) (fpl 1) ((fpl 0) + (fpl 2)) ((fpl 1) + (fpl 3)))))), (atw, .inl (cJ, 4, .inr (.inl (mFour ftw (nI (16 * i)).toInt64 (nI (16 * j)).toInt64 (nI ((16 * i) + 16)).toInt64 (nI ((16 * j) + 16)).toInt64))))]) (WR := [(asl, .inl (cZ, 576, .inl (bF fsl))), (apl, .inl (cJ, 4, .inr (.inl fpl)))]) (WN := [(om, .inr (5, [.int (nI 0), .int (nI ns), .ref apx, .ref apy, .ref act, .int (nI nb), .ref asd, .ref amv, .ref asl, .ref apl, .ref asw, .int (nI nw), .ref aor, .int (nI nc), .ref aon, .ref atw, .long 0, .long 0, .ref aup, .ref alw, .int (nI nm), .long up, .long lo, .long rx, .long ry])), (asl, .inl (cZ, 576, .inl (bF fsl))), (apl, .inl (cJ, 4, .inr (.inl fpl))), (aon, .inl (cJ, 4, .inr (.inl (mFour fon (fpl 0) (fpl 1) ((fpl 0) + (fpl 2)) ((fpl 1) + (fpl 3)))))), (atw, .inl (cJ, 4, .inr (.inl (mFour ftw (nI (16 * i)).toInt64 (nI (16 * j)).toInt64 (nI ((16 * i) + 16)).toInt64 (nI ((16 * j) + 16)).toInt64))))]) (tyC := [(cJ, .long), (cI, .int), (cZ, .boolean)]) (isC := [0, 3, 4]) (isR := [1, 2]) (isN := [2, 0, 1, 3, 4]) (its := [0, 1, 2]) ⟨hx, hb, hml, hown, hts⟩ (tX5_loadTile l dC dI cJ cI cZ om 0 ns apx apy act nb asd amv asl apl asw nw aor nc aon atw aup alw nm mx my up lo rx ry fon ftw i j (fpl 0) (fpl 1) (fpl 2) (fpl 3)) (cwV 6 hts gX5_tile_X5_loadTile rfl rfl rfl (by decide +kernel) ⟨Nat.le_of_ble_eq_true rfl, Nat.le_of_ble_eq_true rfl⟩) hP hD hA hS hK rfl (by decide) rfl (by decide) (by decide) rfl (by decide) rfl rfl rfl rfl rfl hl.1 (Nat.le_of_ble_eq_true rfl) dX5_tile_69 ⟨Nat.le_of_ble_eq_true rfl, Nat.le_of_ble_eq_true rfl⟩ (fun H locs hP hD hS => ?_)
          refine lv_aload_n hx hb dX5_tile_72 rfl (lv_at hl 0 rfl) ?_
          refine lv_aload_n hx hb dX5_tile_73 rfl (lv_at hl 0 rfl) ?_
          refine lv_lconst (v := 0) hx hb dX5_tile_74 (by decide) ?_
          refine lv_lconst (v := 1) hx hb dX5_tile_75 (by decide) ?_
          refine lv_iconst (v := (nI 1)) hx hb dX5_tile_76 (by decide) ?_
          refine kpVi (q0 := 0) (ci := 5) (As := [.long 0, .long 1, .int (nI 1)]) (rest := [.ref om]) (WC := [(om, .inr (5, [.int (nI 0), .int (nI ns), .ref apx, .ref apy, .ref act, .int (nI nb), .ref asd, .ref amv, .ref asl, .ref apl, .ref asw, .int (nI nw), .ref aor, .int (nI nc), .ref aon, .ref atw, .long 0, .long 0, .ref aup, .ref alw, .int (nI nm), .long up, .long lo, .long rx, .long ry])), (aon, .inl (cJ, 4, .inr (.inl (mFour fon (fpl 0) (fpl 1) ((fpl 0) + (fpl 2)) ((fpl 1) + (fpl 3)))))), (atw, .inl (cJ, 4, .inr (.inl (mFour ftw (nI (16 * i)).toInt64 (nI (16 * j)).toInt64 (nI ((16 * i) + 16)).toInt64 (nI ((16 * j) + 16)).toInt64))))]) (tyC := [(cJ, .long), (cI, .int), (cZ, .boolean)]) ⟨hx, hb, hml, hown, hts⟩ (tX5_isAt_t l dC dI cJ cI cZ om 0 ns apx apy act nb asd amv asl apl asw nw aor nc aon atw aup alw nm 0 0 up lo rx ry (mFour fon (fpl 0) (fpl 1) ((fpl 0) + (fpl 2)) ((fpl 1) + (fpl 3))) (mFour ftw (nI (16 * i)).toInt64 (nI (16 * j)).toInt64 (nI ((16 * i) + 16)).toInt64 (nI ((16 * j) + 16)).toInt64) 0 1) (cwV 3 hts gX5_tile_X5_isAt rfl rfl rfl (by decide +kernel) ⟨Nat.le_of_ble_eq_true rfl, Nat.le_of_ble_eq_true rfl⟩) (kPick (isC := [0, 3, 4]) hP rfl) (hK.sub [0, 1, 2] rfl) rfl rfl rfl rfl hl.1 (Nat.le_of_ble_eq_true rfl) dX5_tile_77 ⟨Nat.le_of_ble_eq_true rfl, Nat.le_of_ble_eq_true rfl⟩ ?_
          refine lv_if_eq (tgt := 87) hx hb dX5_tile_80 (by decide) (fun c80 => ?_) (fun c80 => ?_)
          · replace c80 := bI_0 c80; replace c80 := pB_not c80
            refine lv_iconst (v := (nI 0)) hx hb dX5_tile_87 (by decide) ?_
            refine va_put (D := (dC, dI)) (ci := 5) (v := .int (nI 0)) (ty := .int) (C := RX5) (T := TX5) (N := 25) hx hb hts hi5 tyX5 tyX5_ok nmX5 hown hK hP hD hS 0 rfl rfl 0 (by decide) f54 (fun _ h9 => h9) rfl (by decide +kernel) rfl rfl (Nat.le_of_ble_eq_true rfl) dX5_tile_88 (fun H locs hP hD hS => ?_)
            have hP : va_P (dC, dI) vwCl [(om, .inr (5, [.int (nI 0), .int (nI ns), .ref apx, .ref apy, .ref act, .int (nI nb), .ref asd, .ref amv, .ref asl, .ref apl, .ref asw, .int (nI nw), .ref aor, .int (nI nc), .ref aon, .ref atw, .long 0, .long 0, .ref aup, .ref alw, .int (nI nm), .long up, .long lo, .long rx, .long ry])), (asl, .inl (cZ, 576, .inl (bF fsl))), (apl, .inl (cJ, 4, .inr (.inl fpl))), (aon, .inl (cJ, 4, .inr (.inl (mFour fon (fpl 0) (fpl 1) ((fpl 0) + (fpl 2)) ((fpl 1) + (fpl 3)))))), (atw, .inl (cJ, 4, .inr (.inl (mFour ftw (nI (16 * i)).toInt64 (nI (16 * j)).toInt64 (nI ((16 * i) + 16)).toInt64 (nI ((16 * j) + 16)).toInt64))))] H := hP
            have hD : va_D A [(om, .inr (5, [.int (nI 0), .int (nI ns), .ref apx, .ref apy, .ref act, .int (nI nb), .ref asd, .ref amv, .ref asl, .ref apl, .ref asw, .int (nI nw), .ref aor, .int (nI nc), .ref aon, .ref atw, .long 0, .long 0, .ref aup, .ref alw, .int (nI nm), .long up, .long lo, .long rx, .long ry])), (asl, .inl (cZ, 576, .inl (bF fsl))), (apl, .inl (cJ, 4, .inr (.inl fpl))), (aon, .inl (cJ, 4, .inr (.inl (mFour fon (fpl 0) (fpl 1) ((fpl 0) + (fpl 2)) ((fpl 1) + (fpl 3)))))), (atw, .inl (cJ, 4, .inr (.inl (mFour ftw (nI (16 * i)).toInt64 (nI (16 * j)).toInt64 (nI ((16 * i) + 16)).toInt64 (nI ((16 * j) + 16)).toInt64))))] := hD
            refine lv_aload_n hx hb dX5_tile_91 rfl (lv_at hl 0 rfl) ?_
            refine va_get (D := (dC, dI)) (ci := 5) (v := .int (nI 0)) (C := RX5) (T := TX5) (N := 25) hx hb hts hi5 hown hK hP 0 rfl rfl 0 (by decide) f54 (fun _ h9 => h9) rfl dX5_tile_92 ?_
            refine lv_if_gt (tgt := 113) hx hb dX5_tile_95 (by decide) (fun c95 => ?_) (fun c95 => ?_)
            · skip
              exact absurd c95 (by decide)
            · rw [← nI_0, nI_ltI (by omega) (by omega), Nat.not_lt] at c95
              refine lv_aload_n hx hb dX5_tile_98 rfl (lv_at hl 0 rfl) ?_
              refine va_get (D := (dC, dI)) (ci := 5) (v := .ref asl) (C := RX5) (T := TX5) (N := 25) hx hb hts hi5 hown hK hP 0 rfl rfl 8 (by decide) f26 (fun _ h9 => h9) rfl dX5_tile_99 ?_
              refine lv_bipush (v := (nI 24)) hx hb dX5_tile_102 (by decide) ?_
              refine lv_iload_n hx hb dX5_tile_104 rfl (lv_at hl 2 rfl) ?_
              refine lv_imul hx hb dX5_tile_105 ?_
              rw [show (nI 24) * (nI j) = (nI (24 * j)) from pk_mul 24 j]
              refine lv_iload_n hx hb dX5_tile_106 rfl (lv_at hl 1 rfl) ?_
              refine lv_iadd hx hb dX5_tile_107 ?_
              rw [show (nI (24 * j)) + (nI i) = (nI (((24 * j)) + i)) from nI_add ((24 * j)) i]
              refine va_zald hx hb hK hP 1 2 rfl rfl (vp_in_nI (show (((24 * j)) + i) < 576 by omega) (by omega)) dX5_tile_108 ?_
              rw [show (nI (((24 * j)) + i)).toNatClampNeg = (((24 * j)) + i) from nI_clamp (show (((24 * j)) + i) < 2 ^ 31 by omega)]
              rw [show (bF fsl) ((((24 * j)) + i)) = (bI (fsl ((((24 * j)) + i)))) from rfl]
              refine lv_iload_n hx hb dX5_tile_109 rfl (lv_at hl 3 rfl) ?_
              refine lv_icmp_ne (tgt := 115) hx hb dX5_tile_110 (by decide) (fun c110 => ?_) (fun c110 => ?_)
              · skip
                refine lv_aload_n hx hb dX5_tile_115 rfl (lv_at hl 0 rfl) ?_
                refine va_get (D := (dC, dI)) (ci := 5) (v := .ref asl) (C := RX5) (T := TX5) (N := 25) hx hb hts hi5 hown hK hP 0 rfl rfl 8 (by decide) f26 (fun _ h9 => h9) rfl dX5_tile_116 ?_
                refine lv_bipush (v := (nI 24)) hx hb dX5_tile_119 (by decide) ?_
                refine lv_iload_n hx hb dX5_tile_121 rfl (lv_at hl 2 rfl) ?_
                refine lv_imul hx hb dX5_tile_122 ?_
                rw [show (nI 24) * (nI j) = (nI (24 * j)) from pk_mul 24 j]
                refine lv_iload_n hx hb dX5_tile_123 rfl (lv_at hl 1 rfl) ?_
                refine lv_iadd hx hb dX5_tile_124 ?_
                rw [show (nI (24 * j)) + (nI i) = (nI (((24 * j)) + i)) from nI_add ((24 * j)) i]
                refine lv_iload_n hx hb dX5_tile_125 rfl (lv_at hl 3 rfl) ?_
                refine va_zast hx hb hK hP hD hS 1 2 rfl rfl (vp_in_nI (show (((24 * j)) + i) < 576 by omega) (by omega)) dX5_tile_126 (fun H locs hP hD hS => ?_)
                rw [show (nI (((24 * j)) + i)).toNatClampNeg = (((24 * j)) + i) from nI_clamp (show (((24 * j)) + i) < 2 ^ 31 by omega)] at hP hD
                rw [show vp_nar .boolean (bI true) = bI true from vp_nar_bI _, show upd (bF fsl) ((((24 * j)) + i)) (bI true) = (bF (va_up fsl ((((24 * j)) + i)) true)) from bF_upd _ _ _] at hP hD
                have hP : va_P (dC, dI) vwCl [(om, .inr (5, [.int (nI 0), .int (nI ns), .ref apx, .ref apy, .ref act, .int (nI nb), .ref asd, .ref amv, .ref asl, .ref apl, .ref asw, .int (nI nw), .ref aor, .int (nI nc), .ref aon, .ref atw, .long 0, .long 0, .ref aup, .ref alw, .int (nI nm), .long up, .long lo, .long rx, .long ry])), (asl, .inl (cZ, 576, .inl (bF (va_up fsl ((((24 * j)) + i)) true)))), (apl, .inl (cJ, 4, .inr (.inl fpl))), (aon, .inl (cJ, 4, .inr (.inl (mFour fon (fpl 0) (fpl 1) ((fpl 0) + (fpl 2)) ((fpl 1) + (fpl 3)))))), (atw, .inl (cJ, 4, .inr (.inl (mFour ftw (nI (16 * i)).toInt64 (nI (16 * j)).toInt64 (nI ((16 * i) + 16)).toInt64 (nI ((16 * j) + 16)).toInt64))))] H := hP
                have hD : va_D A [(om, .inr (5, [.int (nI 0), .int (nI ns), .ref apx, .ref apy, .ref act, .int (nI nb), .ref asd, .ref amv, .ref asl, .ref apl, .ref asw, .int (nI nw), .ref aor, .int (nI nc), .ref aon, .ref atw, .long 0, .long 0, .ref aup, .ref alw, .int (nI nm), .long up, .long lo, .long rx, .long ry])), (asl, .inl (cZ, 576, .inl (bF (va_up fsl ((((24 * j)) + i)) true)))), (apl, .inl (cJ, 4, .inr (.inl fpl))), (aon, .inl (cJ, 4, .inr (.inl (mFour fon (fpl 0) (fpl 1) ((fpl 0) + (fpl 2)) ((fpl 1) + (fpl 3)))))), (atw, .inl (cJ, 4, .inr (.inl (mFour ftw (nI (16 * i)).toInt64 (nI (16 * j)).toInt64 (nI ((16 * i) + 16)).toInt64 (nI ((16 * j) + 16)).toInt64))))] := hD
                refine lv_iconst (v := (nI 1)) hx hb dX5_tile_127 (by decide) ?_
                exact kEz hx hb hr hlocks hP hK hD hS dX5_tile_128 rfl
              · skip
                rw [hold] at c110; exact absurd c110 (by decide)
          · replace c80 := bI_n c80; replace c80 := pB_iff.mp c80
            exact absurd c80 hov

/-- whether a box would overlap tile t -/
def mOver (x y w h : Int64) (t : Nat) : Prop := mComI x (x + w) (nI (16 * (t % 24))).toInt64 (nI ((16 * (t % 24)) + 16)).toInt64 0 0 1 ∧ mComI y (y + h) (nI (16 * (t / 24))).toInt64 (nI ((16 * (t / 24)) + 16)).toInt64 0 0 1
set_option maxHeartbeats 4000000 in
set_option maxRecDepth 100000 in
theorem tX5_player_e (l : Launch) (dC : Nat → ClassId) (dI : Nat → Nat → Nat) (cJ cI cZ : ClassId) (om cd ns apx apy act nb asd amv asl apl asw nw aor nc aon atw aup alw nm : Nat) (mx my up lo rx ry : Int64) (fsl : Nat → Bool) (fpl : Nat → Int64) (fon : Nat → Int64) (ftw : Nat → Int64) (x y w h : Int64) (hbad : ¬ ((-10000 ≤ x ∧ x ≤ 10000) ∧ (-10000 ≤ y ∧ y ≤ 10000) ∧ 1 ≤ w ∧ w ≤ 64 ∧ 1 ≤ h ∧ h ≤ 64)) : MMi l yX5_player wsX5_player { frames := 1, cells := 0, slots := 0, locals := 21 } [.ref om, .long x, .long y, .long w, .long h] (dC, dI) [(om, .inr (5, [.int (nI cd), .int (nI ns), .ref apx, .ref apy, .ref act, .int (nI nb), .ref asd, .ref amv, .ref asl, .ref apl, .ref asw, .int (nI nw), .ref aor, .int (nI nc), .ref aon, .ref atw, .long mx, .long my, .ref aup, .ref alw, .int (nI nm), .long up, .long lo, .long rx, .long ry])), (asl, .inl (cZ, 576, .inl (bF fsl))), (apl, .inl (cJ, 4, .inr (.inl fpl))), (aon, .inl (cJ, 4, .inr (.inl fon))), (atw, .inl (cJ, 4, .inr (.inl ftw)))] [(om, .inr (5, [.int (nI 1), .int (nI ns), .ref apx, .ref apy, .ref act, .int (nI nb), .ref asd, .ref amv, .ref asl, .ref apl, .ref asw, .int (nI nw), .ref aor, .int (nI nc), .ref aon, .ref atw, .long mx, .long my, .ref aup, .ref alw, .int (nI nm), .long up, .long lo, .long rx, .long ry])), (asl, .inl (cZ, 576, .inl (bF fsl))), (apl, .inl (cJ, 4, .inr (.inl fpl))), (aon, .inl (cJ, 4, .inr (.inl fon))), (atw, .inl (cJ, 4, .inr (.inl ftw)))] [(cJ, .long), (cI, .int), (cZ, .boolean)] (bI false) := by
  intro sz
  refine kOf (cc := cX5_player) (maxL := 10) (ret := (some .boolean)) (by decide) rfl (Nat.le_of_ble_eq_true rfl) ?_
  intro p e s m below meth c hx hb hr hml hts hown hlocks hB ls hl
  obtain ⟨hsz, hP, hK, hD0⟩ := hB
  subst hsz
  have hD := hD0.self (sz := s.heap.size)
  generalize hAe : va_A [(om, .inr (5, [.int (nI cd), .int (nI ns), .ref apx, .ref apy, .ref act, .int (nI nb), .ref asd, .ref amv, .ref asl, .ref apl, .ref asw, .int (nI nw), .ref aor, .int (nI nc), .ref aon, .ref atw, .long mx, .long my, .ref aup, .ref alw, .int (nI nm), .long up, .long lo, .long rx, .long ry])), (asl, .inl (cZ, 576, .inl (bF fsl))), (apl, .inl (cJ, 4, .inr (.inl fpl))), (aon, .inl (cJ, 4, .inr (.inl fon))), (atw, .inl (cJ, 4, .inr (.inl ftw)))] s.heap.size = A at hD ⊢
  have hA : ∀ q : Nat, s.heap.size ≤ q → A q := fun q h => by rw [← hAe]; exact Or.inr h
  have hS : va_S A s.heap s.heap [] := va_S.rf
  have hl : lv_has ls 10 [(0, .ref om), (1, .long x), (3, .long y), (5, .long w), (7, .long h)] := hl
  have hi5 : ∀ w ∈ u_ws RX5 TX5 25, w ∈ wsX5_player := by decide +kernel
  have f54 := hts (.fieldLink RX5 54 "SweptBoxesModel" "code" "I") (by decide +kernel)
  refine lv_aload_n hx hb dX5_player_0 rfl (lv_at hl 0 rfl) ?_
  refine lv_lload_n hx hb dX5_player_1 rfl (lv_at hl 1 rfl) ?_
  refine kpSi (As := [.long x]) (rest := [.ref om]) (WC := []) (tyC := []) ⟨hx, hb, hml, hown, hts⟩ (tX5_isIn l dC dI x) (cwS 1 hts gX5_player_X5_isIn rfl rfl rfl (by decide +kernel) ⟨Nat.le_of_ble_eq_true rfl, Nat.le_of_ble_eq_true rfl⟩) (kPick (isC := []) hP rfl) (hK.sub [] rfl) rfl rfl hl.1 (Nat.le_of_ble_eq_true rfl) dX5_player_2 ⟨Nat.le_of_ble_eq_true rfl, Nat.le_of_ble_eq_true rfl⟩ ?_
  refine lv_if_eq (tgt := 51) hx hb dX5_player_5 (by decide) (fun c5 => ?_) (fun c5 => ?_)
  · replace c5 := bI_0 c5; replace c5 := of_decide_eq_false c5
    refine lv_iconst (v := (nI 1)) hx hb dX5_player_51 (by decide) ?_
    refine va_put (D := (dC, dI)) (ci := 5) (v := .int (nI 1)) (ty := .int) (C := RX5) (T := TX5) (N := 25) hx hb hts hi5 tyX5 tyX5_ok nmX5 hown hK hP hD hS 0 rfl rfl 0 (by decide) f54 (fun _ h9 => h9) rfl (by decide +kernel) rfl rfl (Nat.le_of_ble_eq_true rfl) dX5_player_52 (fun H locs hP hD hS => ?_)
    have hP : va_P (dC, dI) vwCl [(om, .inr (5, [.int (nI 1), .int (nI ns), .ref apx, .ref apy, .ref act, .int (nI nb), .ref asd, .ref amv, .ref asl, .ref apl, .ref asw, .int (nI nw), .ref aor, .int (nI nc), .ref aon, .ref atw, .long mx, .long my, .ref aup, .ref alw, .int (nI nm), .long up, .long lo, .long rx, .long ry])), (asl, .inl (cZ, 576, .inl (bF fsl))), (apl, .inl (cJ, 4, .inr (.inl fpl))), (aon, .inl (cJ, 4, .inr (.inl fon))), (atw, .inl (cJ, 4, .inr (.inl ftw)))] H := hP
    have hD : va_D A [(om, .inr (5, [.int (nI 1), .int (nI ns), .ref apx, .ref apy, .ref act, .int (nI nb), .ref asd, .ref amv, .ref asl, .ref apl, .ref asw, .int (nI nw), .ref aor, .int (nI nc), .ref aon, .ref atw, .long mx, .long my, .ref aup, .ref alw, .int (nI nm), .long up, .long lo, .long rx, .long ry])), (asl, .inl (cZ, 576, .inl (bF fsl))), (apl, .inl (cJ, 4, .inr (.inl fpl))), (aon, .inl (cJ, 4, .inr (.inl fon))), (atw, .inl (cJ, 4, .inr (.inl ftw)))] := hD
    refine lv_iconst (v := (nI 0)) hx hb dX5_player_55 (by decide) ?_
    refine lv_istore (lv' := [(9, .int (nI 0)), (0, .ref om), (1, .long x), (3, .long y), (5, .long w), (7, .long h)]) hx hb dX5_player_56 hl (by decide) rfl (fun ls hl => ?_)
    refine lv_iload hx hb dX5_player_58 (lv_at hl 0 rfl) ?_
    refine lv_sipush (v := (nI 576)) hx hb dX5_player_60 (by decide) ?_
    refine lv_icmp_ge (tgt := 121) hx hb dX5_player_63 (by decide) (fun c63 => ?_) (fun c63 => ?_)
    · skip
      exact absurd c63 (by decide)
    · rw [nI_leI (by omega) (by omega), Nat.not_le] at c63
      refine lv_aload_n hx hb dX5_player_66 rfl (lv_at hl 1 rfl) ?_
      refine va_get (D := (dC, dI)) (ci := 5) (v := .int (nI 1)) (C := RX5) (T := TX5) (N := 25) hx hb hts hi5 hown hK hP 0 rfl rfl 0 (by decide) f54 (fun _ h9 => h9) rfl dX5_player_67 ?_
      refine lv_if_ne (tgt := 121) hx hb dX5_player_70 (by decide) (fun c70 => ?_) (fun c70 => ?_)
      · rw [← nI_0, nI_eq (by omega) (by omega)] at c70
        refine lv_aload_n hx hb dX5_player_121 rfl (lv_at hl 1 rfl) ?_
        refine va_get (D := (dC, dI)) (ci := 5) (v := .int (nI 1)) (C := RX5) (T := TX5) (N := 25) hx hb hts hi5 hown hK hP 0 rfl rfl 0 (by decide) f54 (fun _ h9 => h9) rfl dX5_player_122 ?_
        refine lv_if_le (tgt := 130) hx hb dX5_player_125 (by decide) (fun c125 => ?_) (fun c125 => ?_)
        · skip
          exact absurd c125 (by decide)
        · rw [← nI_0, nI_leI (by omega) (by omega), Nat.not_le] at c125
          refine lv_iconst (v := (nI 0)) hx hb dX5_player_128 (by decide) ?_
          exact kEz hx hb hr hlocks hP hK hD hS dX5_player_129 rfl
      · skip
        exact absurd c70 (by decide)
  · replace c5 := bI_n c5; replace c5 := of_decide_eq_true c5
    refine lv_lload_n hx hb dX5_player_8 rfl (lv_at hl 2 rfl) ?_
    refine kpSi (As := [.long y]) (rest := [.ref om]) (WC := []) (tyC := []) ⟨hx, hb, hml, hown, hts⟩ (tX5_isIn l dC dI y) (cwS 1 hts gX5_player_X5_isIn rfl rfl rfl (by decide +kernel) ⟨Nat.le_of_ble_eq_true rfl, Nat.le_of_ble_eq_true rfl⟩) (kPick (isC := []) hP rfl) (hK.sub [] rfl) rfl rfl hl.1 (Nat.le_of_ble_eq_true rfl) dX5_player_9 ⟨Nat.le_of_ble_eq_true rfl, Nat.le_of_ble_eq_true rfl⟩ ?_
    refine lv_if_eq (tgt := 51) hx hb dX5_player_12 (by decide) (fun c12 => ?_) (fun c12 => ?_)
    · replace c12 := bI_0 c12; replace c12 := of_decide_eq_false c12
      refine lv_iconst (v := (nI 1)) hx hb dX5_player_51 (by decide) ?_
      refine va_put (D := (dC, dI)) (ci := 5) (v := .int (nI 1)) (ty := .int) (C := RX5) (T := TX5) (N := 25) hx hb hts hi5 tyX5 tyX5_ok nmX5 hown hK hP hD hS 0 rfl rfl 0 (by decide) f54 (fun _ h9 => h9) rfl (by decide +kernel) rfl rfl (Nat.le_of_ble_eq_true rfl) dX5_player_52 (fun H locs hP hD hS => ?_)
      have hP : va_P (dC, dI) vwCl [(om, .inr (5, [.int (nI 1), .int (nI ns), .ref apx, .ref apy, .ref act, .int (nI nb), .ref asd, .ref amv, .ref asl, .ref apl, .ref asw, .int (nI nw), .ref aor, .int (nI nc), .ref aon, .ref atw, .long mx, .long my, .ref aup, .ref alw, .int (nI nm), .long up, .long lo, .long rx, .long ry])), (asl, .inl (cZ, 576, .inl (bF fsl))), (apl, .inl (cJ, 4, .inr (.inl fpl))), (aon, .inl (cJ, 4, .inr (.inl fon))), (atw, .inl (cJ, 4, .inr (.inl ftw)))] H := hP
      have hD : va_D A [(om, .inr (5, [.int (nI 1), .int (nI ns), .ref apx, .ref apy, .ref act, .int (nI nb), .ref asd, .ref amv, .ref asl, .ref apl, .ref asw, .int (nI nw), .ref aor, .int (nI nc), .ref aon, .ref atw, .long mx, .long my, .ref aup, .ref alw, .int (nI nm), .long up, .long lo, .long rx, .long ry])), (asl, .inl (cZ, 576, .inl (bF fsl))), (apl, .inl (cJ, 4, .inr (.inl fpl))), (aon, .inl (cJ, 4, .inr (.inl fon))), (atw, .inl (cJ, 4, .inr (.inl ftw)))] := hD
      refine lv_iconst (v := (nI 0)) hx hb dX5_player_55 (by decide) ?_
      refine lv_istore (lv' := [(9, .int (nI 0)), (0, .ref om), (1, .long x), (3, .long y), (5, .long w), (7, .long h)]) hx hb dX5_player_56 hl (by decide) rfl (fun ls hl => ?_)
      refine lv_iload hx hb dX5_player_58 (lv_at hl 0 rfl) ?_
      refine lv_sipush (v := (nI 576)) hx hb dX5_player_60 (by decide) ?_
      refine lv_icmp_ge (tgt := 121) hx hb dX5_player_63 (by decide) (fun c63 => ?_) (fun c63 => ?_)
      · skip
        exact absurd c63 (by decide)
      · rw [nI_leI (by omega) (by omega), Nat.not_le] at c63
        refine lv_aload_n hx hb dX5_player_66 rfl (lv_at hl 1 rfl) ?_
        refine va_get (D := (dC, dI)) (ci := 5) (v := .int (nI 1)) (C := RX5) (T := TX5) (N := 25) hx hb hts hi5 hown hK hP 0 rfl rfl 0 (by decide) f54 (fun _ h9 => h9) rfl dX5_player_67 ?_
        refine lv_if_ne (tgt := 121) hx hb dX5_player_70 (by decide) (fun c70 => ?_) (fun c70 => ?_)
        · rw [← nI_0, nI_eq (by omega) (by omega)] at c70
          refine lv_aload_n hx hb dX5_player_121 rfl (lv_at hl 1 rfl) ?_
          refine va_get (D := (dC, dI)) (ci := 5) (v := .int (nI 1)) (C := RX5) (T := TX5) (N := 25) hx hb hts hi5 hown hK hP 0 rfl rfl 0 (by decide) f54 (fun _ h9 => h9) rfl dX5_player_122 ?_
          refine lv_if_le (tgt := 130) hx hb dX5_player_125 (by decide) (fun c125 => ?_) (fun c125 => ?_)
          · skip
            exact absurd c125 (by decide)
          · rw [← nI_0, nI_leI (by omega) (by omega), Nat.not_le] at c125
            refine lv_iconst (v := (nI 0)) hx hb dX5_player_128 (by decide) ?_
            exact kEz hx hb hr hlocks hP hK hD hS dX5_player_129 rfl
        · skip
          exact absurd c70 (by decide)
    · replace c12 := bI_n c12; replace c12 := of_decide_eq_true c12
      refine lv_lload hx hb dX5_player_15 (lv_at hl 3 rfl) ?_
      refine lv_lconst (v := 1) hx hb dX5_player_17 (by decide) ?_
      refine W.lcmp hx hb dX5_player_18 ?_
      refine lv_if_lt (tgt := 51) hx hb dX5_player_19 (by decide) (fun c19 => ?_) (fun c19 => ?_)
      · rw [lg_cmp_lt] at c19
        refine lv_iconst (v := (nI 1)) hx hb dX5_player_51 (by decide) ?_
        refine va_put (D := (dC, dI)) (ci := 5) (v := .int (nI 1)) (ty := .int) (C := RX5) (T := TX5) (N := 25) hx hb hts hi5 tyX5 tyX5_ok nmX5 hown hK hP hD hS 0 rfl rfl 0 (by decide) f54 (fun _ h9 => h9) rfl (by decide +kernel) rfl rfl (Nat.le_of_ble_eq_true rfl) dX5_player_52 (fun H locs hP hD hS => ?_)
        have hP : va_P (dC, dI) vwCl [(om, .inr (5, [.int (nI 1), .int (nI ns), .ref apx, .ref apy, .ref act, .int (nI nb), .ref asd, .ref amv, .ref asl, .ref apl, .ref asw, .int (nI nw), .ref aor, .int (nI nc), .ref aon, .ref atw, .long mx, .long my, .ref aup, .ref alw, .int (nI nm), .long up, .long lo, .long rx, .long ry])), (asl, .inl (cZ, 576, .inl (bF fsl))), (apl, .inl (cJ, 4, .inr (.inl fpl))), (aon, .inl (cJ, 4, .inr (.inl fon))), (atw, .inl (cJ, 4, .inr (.inl ftw)))] H := hP
        have hD : va_D A [(om, .inr (5, [.int (nI 1), .int (nI ns), .ref apx, .ref apy, .ref act, .int (nI nb), .ref asd, .ref amv, .ref asl, .ref apl, .ref asw, .int (nI nw), .ref aor, .int (nI nc), .ref aon, .ref atw, .long mx, .long my, .ref aup, .ref alw, .int (nI nm), .long up, .long lo, .long rx, .long ry])), (asl, .inl (cZ, 576, .inl (bF fsl))), (apl, .inl (cJ, 4, .inr (.inl fpl))), (aon, .inl (cJ, 4, .inr (.inl fon))), (atw, .inl (cJ, 4, .inr (.inl ftw)))] := hD
        refine lv_iconst (v := (nI 0)) hx hb dX5_player_55 (by decide) ?_
        refine lv_istore (lv' := [(9, .int (nI 0)), (0, .ref om), (1, .long x), (3, .long y), (5, .long w), (7, .long h)]) hx hb dX5_player_56 hl (by decide) rfl (fun ls hl => ?_)
        refine lv_iload hx hb dX5_player_58 (lv_at hl 0 rfl) ?_
        refine lv_sipush (v := (nI 576)) hx hb dX5_player_60 (by decide) ?_
        refine lv_icmp_ge (tgt := 121) hx hb dX5_player_63 (by decide) (fun c63 => ?_) (fun c63 => ?_)
        · skip
          exact absurd c63 (by decide)
        · rw [nI_leI (by omega) (by omega), Nat.not_le] at c63
          refine lv_aload_n hx hb dX5_player_66 rfl (lv_at hl 1 rfl) ?_
          refine va_get (D := (dC, dI)) (ci := 5) (v := .int (nI 1)) (C := RX5) (T := TX5) (N := 25) hx hb hts hi5 hown hK hP 0 rfl rfl 0 (by decide) f54 (fun _ h9 => h9) rfl dX5_player_67 ?_
          refine lv_if_ne (tgt := 121) hx hb dX5_player_70 (by decide) (fun c70 => ?_) (fun c70 => ?_)
          · rw [← nI_0, nI_eq (by omega) (by omega)] at c70
            refine lv_aload_n hx hb dX5_player_121 rfl (lv_at hl 1 rfl) ?_
            refine va_get (D := (dC, dI)) (ci := 5) (v := .int (nI 1)) (C := RX5) (T := TX5) (N := 25) hx hb hts hi5 hown hK hP 0 rfl rfl 0 (by decide) f54 (fun _ h9 => h9) rfl dX5_player_122 ?_
            refine lv_if_le (tgt := 130) hx hb dX5_player_125 (by decide) (fun c125 => ?_) (fun c125 => ?_)
            · skip
              exact absurd c125 (by decide)
            · rw [← nI_0, nI_leI (by omega) (by omega), Nat.not_le] at c125
              refine lv_iconst (v := (nI 0)) hx hb dX5_player_128 (by decide) ?_
              exact kEz hx hb hr hlocks hP hK hD hS dX5_player_129 rfl
          · skip
            exact absurd c70 (by decide)
      · rw [lg_cmp_lt, Int64.not_lt] at c19
        refine lv_lload hx hb dX5_player_22 (lv_at hl 3 rfl) ?_
        refine lv_ldc2 hx hb hown (hts (.constantLong RX5 185 (64)) (by decide +kernel)) dX5_player_24 ?_
        refine W.lcmp hx hb dX5_player_27 ?_
        refine lv_if_gt (tgt := 51) hx hb dX5_player_28 (by decide) (fun c28 => ?_) (fun c28 => ?_)
        · rw [lg_cmp_gt] at c28
          refine lv_iconst (v := (nI 1)) hx hb dX5_player_51 (by decide) ?_
          refine va_put (D := (dC, dI)) (ci := 5) (v := .int (nI 1)) (ty := .int) (C := RX5) (T := TX5) (N := 25) hx hb hts hi5 tyX5 tyX5_ok nmX5 hown hK hP hD hS 0 rfl rfl 0 (by decide) f54 (fun _ h9 => h9) rfl (by decide +kernel) rfl rfl (Nat.le_of_ble_eq_true rfl) dX5_player_52 (fun H locs hP hD hS => ?_)
          have hP : va_P (dC, dI) vwCl [(om, .inr (5, [.int (nI 1), .int (nI ns), .ref apx, .ref apy, .ref act, .int (nI nb), .ref asd, .ref amv, .ref asl, .ref apl, .ref asw, .int (nI nw), .ref aor, .int (nI nc), .ref aon, .ref atw, .long mx, .long my, .ref aup, .ref alw, .int (nI nm), .long up, .long lo, .long rx, .long ry])), (asl, .inl (cZ, 576, .inl (bF fsl))), (apl, .inl (cJ, 4, .inr (.inl fpl))), (aon, .inl (cJ, 4, .inr (.inl fon))), (atw, .inl (cJ, 4, .inr (.inl ftw)))] H := hP
          have hD : va_D A [(om, .inr (5, [.int (nI 1), .int (nI ns), .ref apx, .ref apy, .ref act, .int (nI nb), .ref asd, .ref amv, .ref asl, .ref apl, .ref asw, .int (nI nw), .ref aor, .int (nI nc), .ref aon, .ref atw, .long mx, .long my, .ref aup, .ref alw, .int (nI nm), .long up, .long lo, .long rx, .long ry])), (asl, .inl (cZ, 576, .inl (bF fsl))), (apl, .inl (cJ, 4, .inr (.inl fpl))), (aon, .inl (cJ, 4, .inr (.inl fon))), (atw, .inl (cJ, 4, .inr (.inl ftw)))] := hD
          refine lv_iconst (v := (nI 0)) hx hb dX5_player_55 (by decide) ?_
          refine lv_istore (lv' := [(9, .int (nI 0)), (0, .ref om), (1, .long x), (3, .long y), (5, .long w), (7, .long h)]) hx hb dX5_player_56 hl (by decide) rfl (fun ls hl => ?_)
          refine lv_iload hx hb dX5_player_58 (lv_at hl 0 rfl) ?_
          refine lv_sipush (v := (nI 576)) hx hb dX5_player_60 (by decide) ?_
          refine lv_icmp_ge (tgt := 121) hx hb dX5_player_63 (by decide) (fun c63 => ?_) (fun c63 => ?_)
          · skip
            exact absurd c63 (by decide)
          · rw [nI_leI (by omega) (by omega), Nat.not_le] at c63
            refine lv_aload_n hx hb dX5_player_66 rfl (lv_at hl 1 rfl) ?_
            refine va_get (D := (dC, dI)) (ci := 5) (v := .int (nI 1)) (C := RX5) (T := TX5) (N := 25) hx hb hts hi5 hown hK hP 0 rfl rfl 0 (by decide) f54 (fun _ h9 => h9) rfl dX5_player_67 ?_
            refine lv_if_ne (tgt := 121) hx hb dX5_player_70 (by decide) (fun c70 => ?_) (fun c70 => ?_)
            · rw [← nI_0, nI_eq (by omega) (by omega)] at c70
              refine lv_aload_n hx hb dX5_player_121 rfl (lv_at hl 1 rfl) ?_
              refine va_get (D := (dC, dI)) (ci := 5) (v := .int (nI 1)) (C := RX5) (T := TX5) (N := 25) hx hb hts hi5 hown hK hP 0 rfl rfl 0 (by decide) f54 (fun _ h9 => h9) rfl dX5_player_122 ?_
              refine lv_if_le (tgt := 130) hx hb dX5_player_125 (by decide) (fun c125 => ?_) (fun c125 => ?_)
              · skip
                exact absurd c125 (by decide)
              · rw [← nI_0, nI_leI (by omega) (by omega), Nat.not_le] at c125
                refine lv_iconst (v := (nI 0)) hx hb dX5_player_128 (by decide) ?_
                exact kEz hx hb hr hlocks hP hK hD hS dX5_player_129 rfl
            · skip
              exact absurd c70 (by decide)
        · rw [lg_cmp_gt, Int64.not_lt] at c28
          refine lv_lload hx hb dX5_player_31 (lv_at hl 4 rfl) ?_
          refine lv_lconst (v := 1) hx hb dX5_player_33 (by decide) ?_
          refine W.lcmp hx hb dX5_player_34 ?_
          refine lv_if_lt (tgt := 51) hx hb dX5_player_35 (by decide) (fun c35 => ?_) (fun c35 => ?_)
          · rw [lg_cmp_lt] at c35
            refine lv_iconst (v := (nI 1)) hx hb dX5_player_51 (by decide) ?_
            refine va_put (D := (dC, dI)) (ci := 5) (v := .int (nI 1)) (ty := .int) (C := RX5) (T := TX5) (N := 25) hx hb hts hi5 tyX5 tyX5_ok nmX5 hown hK hP hD hS 0 rfl rfl 0 (by decide) f54 (fun _ h9 => h9) rfl (by decide +kernel) rfl rfl (Nat.le_of_ble_eq_true rfl) dX5_player_52 (fun H locs hP hD hS => ?_)
            have hP : va_P (dC, dI) vwCl [(om, .inr (5, [.int (nI 1), .int (nI ns), .ref apx, .ref apy, .ref act, .int (nI nb), .ref asd, .ref amv, .ref asl, .ref apl, .ref asw, .int (nI nw), .ref aor, .int (nI nc), .ref aon, .ref atw, .long mx, .long my, .ref aup, .ref alw, .int (nI nm), .long up, .long lo, .long rx, .long ry])), (asl, .inl (cZ, 576, .inl (bF fsl))), (apl, .inl (cJ, 4, .inr (.inl fpl))), (aon, .inl (cJ, 4, .inr (.inl fon))), (atw, .inl (cJ, 4, .inr (.inl ftw)))] H := hP
            have hD : va_D A [(om, .inr (5, [.int (nI 1), .int (nI ns), .ref apx, .ref apy, .ref act, .int (nI nb), .ref asd, .ref amv, .ref asl, .ref apl, .ref asw, .int (nI nw), .ref aor, .int (nI nc), .ref aon, .ref atw, .long mx, .long my, .ref aup, .ref alw, .int (nI nm), .long up, .long lo, .long rx, .long ry])), (asl, .inl (cZ, 576, .inl (bF fsl))), (apl, .inl (cJ, 4, .inr (.inl fpl))), (aon, .inl (cJ, 4, .inr (.inl fon))), (atw, .inl (cJ, 4, .inr (.inl ftw)))] := hD
            refine lv_iconst (v := (nI 0)) hx hb dX5_player_55 (by decide) ?_
            refine lv_istore (lv' := [(9, .int (nI 0)), (0, .ref om), (1, .long x), (3, .long y), (5, .long w), (7, .long h)]) hx hb dX5_player_56 hl (by decide) rfl (fun ls hl => ?_)
            refine lv_iload hx hb dX5_player_58 (lv_at hl 0 rfl) ?_
            refine lv_sipush (v := (nI 576)) hx hb dX5_player_60 (by decide) ?_
            refine lv_icmp_ge (tgt := 121) hx hb dX5_player_63 (by decide) (fun c63 => ?_) (fun c63 => ?_)
            · skip
              exact absurd c63 (by decide)
            · rw [nI_leI (by omega) (by omega), Nat.not_le] at c63
              refine lv_aload_n hx hb dX5_player_66 rfl (lv_at hl 1 rfl) ?_
              refine va_get (D := (dC, dI)) (ci := 5) (v := .int (nI 1)) (C := RX5) (T := TX5) (N := 25) hx hb hts hi5 hown hK hP 0 rfl rfl 0 (by decide) f54 (fun _ h9 => h9) rfl dX5_player_67 ?_
              refine lv_if_ne (tgt := 121) hx hb dX5_player_70 (by decide) (fun c70 => ?_) (fun c70 => ?_)
              · rw [← nI_0, nI_eq (by omega) (by omega)] at c70
                refine lv_aload_n hx hb dX5_player_121 rfl (lv_at hl 1 rfl) ?_
                refine va_get (D := (dC, dI)) (ci := 5) (v := .int (nI 1)) (C := RX5) (T := TX5) (N := 25) hx hb hts hi5 hown hK hP 0 rfl rfl 0 (by decide) f54 (fun _ h9 => h9) rfl dX5_player_122 ?_
                refine lv_if_le (tgt := 130) hx hb dX5_player_125 (by decide) (fun c125 => ?_) (fun c125 => ?_)
                · skip
                  exact absurd c125 (by decide)
                · rw [← nI_0, nI_leI (by omega) (by omega), Nat.not_le] at c125
                  refine lv_iconst (v := (nI 0)) hx hb dX5_player_128 (by decide) ?_
                  exact kEz hx hb hr hlocks hP hK hD hS dX5_player_129 rfl
              · skip
                exact absurd c70 (by decide)
          · rw [lg_cmp_lt, Int64.not_lt] at c35
            refine lv_lload hx hb dX5_player_38 (lv_at hl 4 rfl) ?_
            refine lv_ldc2 hx hb hown (hts (.constantLong RX5 185 (64)) (by decide +kernel)) dX5_player_40 ?_
            refine W.lcmp hx hb dX5_player_43 ?_
            refine lv_if_gt (tgt := 51) hx hb dX5_player_44 (by decide) (fun c44 => ?_) (fun c44 => ?_)
            · rw [lg_cmp_gt] at c44
              refine lv_iconst (v := (nI 1)) hx hb dX5_player_51 (by decide) ?_
              refine va_put (D := (dC, dI)) (ci := 5) (v := .int (nI 1)) (ty := .int) (C := RX5) (T := TX5) (N := 25) hx hb hts hi5 tyX5 tyX5_ok nmX5 hown hK hP hD hS 0 rfl rfl 0 (by decide) f54 (fun _ h9 => h9) rfl (by decide +kernel) rfl rfl (Nat.le_of_ble_eq_true rfl) dX5_player_52 (fun H locs hP hD hS => ?_)
              have hP : va_P (dC, dI) vwCl [(om, .inr (5, [.int (nI 1), .int (nI ns), .ref apx, .ref apy, .ref act, .int (nI nb), .ref asd, .ref amv, .ref asl, .ref apl, .ref asw, .int (nI nw), .ref aor, .int (nI nc), .ref aon, .ref atw, .long mx, .long my, .ref aup, .ref alw, .int (nI nm), .long up, .long lo, .long rx, .long ry])), (asl, .inl (cZ, 576, .inl (bF fsl))), (apl, .inl (cJ, 4, .inr (.inl fpl))), (aon, .inl (cJ, 4, .inr (.inl fon))), (atw, .inl (cJ, 4, .inr (.inl ftw)))] H := hP
              have hD : va_D A [(om, .inr (5, [.int (nI 1), .int (nI ns), .ref apx, .ref apy, .ref act, .int (nI nb), .ref asd, .ref amv, .ref asl, .ref apl, .ref asw, .int (nI nw), .ref aor, .int (nI nc), .ref aon, .ref atw, .long mx, .long my, .ref aup, .ref alw, .int (nI nm), .long up, .long lo, .long rx, .long ry])), (asl, .inl (cZ, 576, .inl (bF fsl))), (apl, .inl (cJ, 4, .inr (.inl fpl))), (aon, .inl (cJ, 4, .inr (.inl fon))), (atw, .inl (cJ, 4, .inr (.inl ftw)))] := hD
              refine lv_iconst (v := (nI 0)) hx hb dX5_player_55 (by decide) ?_
              refine lv_istore (lv' := [(9, .int (nI 0)), (0, .ref om), (1, .long x), (3, .long y), (5, .long w), (7, .long h)]) hx hb dX5_player_56 hl (by decide) rfl (fun ls hl => ?_)
              refine lv_iload hx hb dX5_player_58 (lv_at hl 0 rfl) ?_
              refine lv_sipush (v := (nI 576)) hx hb dX5_player_60 (by decide) ?_
              refine lv_icmp_ge (tgt := 121) hx hb dX5_player_63 (by decide) (fun c63 => ?_) (fun c63 => ?_)
              · skip
                exact absurd c63 (by decide)
              · rw [nI_leI (by omega) (by omega), Nat.not_le] at c63
                refine lv_aload_n hx hb dX5_player_66 rfl (lv_at hl 1 rfl) ?_
                refine va_get (D := (dC, dI)) (ci := 5) (v := .int (nI 1)) (C := RX5) (T := TX5) (N := 25) hx hb hts hi5 hown hK hP 0 rfl rfl 0 (by decide) f54 (fun _ h9 => h9) rfl dX5_player_67 ?_
                refine lv_if_ne (tgt := 121) hx hb dX5_player_70 (by decide) (fun c70 => ?_) (fun c70 => ?_)
                · rw [← nI_0, nI_eq (by omega) (by omega)] at c70
                  refine lv_aload_n hx hb dX5_player_121 rfl (lv_at hl 1 rfl) ?_
                  refine va_get (D := (dC, dI)) (ci := 5) (v := .int (nI 1)) (C := RX5) (T := TX5) (N := 25) hx hb hts hi5 hown hK hP 0 rfl rfl 0 (by decide) f54 (fun _ h9 => h9) rfl dX5_player_122 ?_
                  refine lv_if_le (tgt := 130) hx hb dX5_player_125 (by decide) (fun c125 => ?_) (fun c125 => ?_)
                  · skip
                    exact absurd c125 (by decide)
                  · rw [← nI_0, nI_leI (by omega) (by omega), Nat.not_le] at c125
                    refine lv_iconst (v := (nI 0)) hx hb dX5_player_128 (by decide) ?_
                    exact kEz hx hb hr hlocks hP hK hD hS dX5_player_129 rfl
                · skip
                  exact absurd c70 (by decide)
            · rw [lg_cmp_gt, Int64.not_lt] at c44
              exact absurd ⟨c5, c12, c19, c28, c35, c44⟩ hbad

set_option maxHeartbeats 4000000 in
set_option maxRecDepth 100000 in
theorem tX5_player_b (l : Launch) (dC : Nat → ClassId) (dI : Nat → Nat → Nat) (cJ cI cZ : ClassId) (om cd ns apx apy act nb asd amv asl apl asw nw aor nc aon atw aup alw nm : Nat) (mx my up lo rx ry : Int64) (fsl : Nat → Bool) (fpl : Nat → Int64) (fon : Nat → Int64) (ftw : Nat → Int64) (x y w h : Int64) (hok : (-10000 ≤ x ∧ x ≤ 10000) ∧ (-10000 ≤ y ∧ y ≤ 10000) ∧ 1 ≤ w ∧ w ≤ 64 ∧ 1 ≤ h ∧ h ≤ 64) (hbl : ∃ t, t < 576 ∧ fsl t = true ∧ mOver x y w h t) : XMi l yX5_player wsX5_player { frames := 2, cells := 0, slots := 0, locals := 65 } [.ref om, .long x, .long y, .long w, .long h] (dC, dI) [(om, .inr (5, [.int (nI cd), .int (nI ns), .ref apx, .ref apy, .ref act, .int (nI nb), .ref asd, .ref amv, .ref asl, .ref apl, .ref asw, .int (nI nw), .ref aor, .int (nI nc), .ref aon, .ref atw, .long mx, .long my, .ref aup, .ref alw, .int (nI nm), .long up, .long lo, .long rx, .long ry])), (asl, .inl (cZ, 576, .inl (bF fsl))), (apl, .inl (cJ, 4, .inr (.inl fpl))), (aon, .inl (cJ, 4, .inr (.inl fon))), (atw, .inl (cJ, 4, .inr (.inl ftw)))] (fun (u : (Nat → Int64) × (Nat → Int64) × Int64 × Int64) => [(om, .inr (5, [.int (nI 0), .int (nI ns), .ref apx, .ref apy, .ref act, .int (nI nb), .ref asd, .ref amv, .ref asl, .ref apl, .ref asw, .int (nI nw), .ref aor, .int (nI nc), .ref aon, .ref atw, .long u.2.2.1, .long u.2.2.2, .ref aup, .ref alw, .int (nI nm), .long up, .long lo, .long rx, .long ry])), (asl, .inl (cZ, 576, .inl (bF fsl))), (apl, .inl (cJ, 4, .inr (.inl fpl))), (aon, .inl (cJ, 4, .inr (.inl u.1))), (atw, .inl (cJ, 4, .inr (.inl u.2.1)))]) [(cJ, .long), (cI, .int), (cZ, .boolean)] (bI false) := by
  intro sz
  refine kOf (cc := cX5_player) (maxL := 10) (ret := (some .boolean)) (by decide) rfl (Nat.le_of_ble_eq_true rfl) ?_
  intro p e s m below meth c hx hb hr hml hts hown hlocks hB ls hl
  obtain ⟨hsz, hP, hK, hD0⟩ := hB
  subst hsz
  have hD := hD0.self (sz := s.heap.size)
  generalize hAe : va_A [(om, .inr (5, [.int (nI cd), .int (nI ns), .ref apx, .ref apy, .ref act, .int (nI nb), .ref asd, .ref amv, .ref asl, .ref apl, .ref asw, .int (nI nw), .ref aor, .int (nI nc), .ref aon, .ref atw, .long mx, .long my, .ref aup, .ref alw, .int (nI nm), .long up, .long lo, .long rx, .long ry])), (asl, .inl (cZ, 576, .inl (bF fsl))), (apl, .inl (cJ, 4, .inr (.inl fpl))), (aon, .inl (cJ, 4, .inr (.inl fon))), (atw, .inl (cJ, 4, .inr (.inl ftw)))] s.heap.size = A at hD ⊢
  have hA : ∀ q : Nat, s.heap.size ≤ q → A q := fun q h => by rw [← hAe]; exact Or.inr h
  have hS : va_S A s.heap s.heap [] := va_S.rf
  have hl : lv_has ls 10 [(0, .ref om), (1, .long x), (3, .long y), (5, .long w), (7, .long h)] := hl
  have hi5 : ∀ w ∈ u_ws RX5 TX5 25, w ∈ wsX5_player := by decide +kernel
  have f26 := hts (.fieldLink RX5 26 "SweptBoxesModel" "solid" "[Z") (by decide +kernel)
  have f54 := hts (.fieldLink RX5 54 "SweptBoxesModel" "code" "I") (by decide +kernel)
  refine lv_aload_n hx hb dX5_player_0 rfl (lv_at hl 0 rfl) ?_
  refine lv_lload_n hx hb dX5_player_1 rfl (lv_at hl 1 rfl) ?_
  refine kpSi (As := [.long x]) (rest := [.ref om]) (WC := []) (tyC := []) ⟨hx, hb, hml, hown, hts⟩ (tX5_isIn l dC dI x) (cwS 1 hts gX5_player_X5_isIn rfl rfl rfl (by decide +kernel) ⟨Nat.le_of_ble_eq_true rfl, Nat.le_of_ble_eq_true rfl⟩) (kPick (isC := []) hP rfl) (hK.sub [] rfl) rfl rfl hl.1 (Nat.le_of_ble_eq_true rfl) dX5_player_2 ⟨Nat.le_of_ble_eq_true rfl, Nat.le_of_ble_eq_true rfl⟩ ?_
  refine lv_if_eq (tgt := 51) hx hb dX5_player_5 (by decide) (fun c5 => ?_) (fun c5 => ?_)
  · replace c5 := bI_0 c5; replace c5 := of_decide_eq_false c5
    exact absurd hok.1 c5
  · replace c5 := bI_n c5; replace c5 := of_decide_eq_true c5
    refine lv_lload_n hx hb dX5_player_8 rfl (lv_at hl 2 rfl) ?_
    refine kpSi (As := [.long y]) (rest := [.ref om]) (WC := []) (tyC := []) ⟨hx, hb, hml, hown, hts⟩ (tX5_isIn l dC dI y) (cwS 1 hts gX5_player_X5_isIn rfl rfl rfl (by decide +kernel) ⟨Nat.le_of_ble_eq_true rfl, Nat.le_of_ble_eq_true rfl⟩) (kPick (isC := []) hP rfl) (hK.sub [] rfl) rfl rfl hl.1 (Nat.le_of_ble_eq_true rfl) dX5_player_9 ⟨Nat.le_of_ble_eq_true rfl, Nat.le_of_ble_eq_true rfl⟩ ?_
    refine lv_if_eq (tgt := 51) hx hb dX5_player_12 (by decide) (fun c12 => ?_) (fun c12 => ?_)
    · replace c12 := bI_0 c12; replace c12 := of_decide_eq_false c12
      exact absurd hok.2.1 c12
    · replace c12 := bI_n c12; replace c12 := of_decide_eq_true c12
      refine lv_lload hx hb dX5_player_15 (lv_at hl 3 rfl) ?_
      refine lv_lconst (v := 1) hx hb dX5_player_17 (by decide) ?_
      refine W.lcmp hx hb dX5_player_18 ?_
      refine lv_if_lt (tgt := 51) hx hb dX5_player_19 (by decide) (fun c19 => ?_) (fun c19 => ?_)
      · rw [lg_cmp_lt] at c19
        exact absurd hok.2.2.1 (Int64.not_le.mpr c19)
      · rw [lg_cmp_lt, Int64.not_lt] at c19
        refine lv_lload hx hb dX5_player_22 (lv_at hl 3 rfl) ?_
        refine lv_ldc2 hx hb hown (hts (.constantLong RX5 185 (64)) (by decide +kernel)) dX5_player_24 ?_
        refine W.lcmp hx hb dX5_player_27 ?_
        refine lv_if_gt (tgt := 51) hx hb dX5_player_28 (by decide) (fun c28 => ?_) (fun c28 => ?_)
        · rw [lg_cmp_gt] at c28
          exact absurd hok.2.2.2.1 (Int64.not_le.mpr c28)
        · rw [lg_cmp_gt, Int64.not_lt] at c28
          refine lv_lload hx hb dX5_player_31 (lv_at hl 4 rfl) ?_
          refine lv_lconst (v := 1) hx hb dX5_player_33 (by decide) ?_
          refine W.lcmp hx hb dX5_player_34 ?_
          refine lv_if_lt (tgt := 51) hx hb dX5_player_35 (by decide) (fun c35 => ?_) (fun c35 => ?_)
          · rw [lg_cmp_lt] at c35
            exact absurd hok.2.2.2.2.1 (Int64.not_le.mpr c35)
          · rw [lg_cmp_lt, Int64.not_lt] at c35
            refine lv_lload hx hb dX5_player_38 (lv_at hl 4 rfl) ?_
            refine lv_ldc2 hx hb hown (hts (.constantLong RX5 185 (64)) (by decide +kernel)) dX5_player_40 ?_
            refine W.lcmp hx hb dX5_player_43 ?_
            refine lv_if_gt (tgt := 51) hx hb dX5_player_44 (by decide) (fun c44 => ?_) (fun c44 => ?_)
            · rw [lg_cmp_gt] at c44
              exact absurd hok.2.2.2.2.2 (Int64.not_le.mpr c44)
            · rw [lg_cmp_gt, Int64.not_lt] at c44
              refine lv_iconst (v := (nI 0)) hx hb dX5_player_47 (by decide) ?_
              refine lv_goto (tgt := 52) hx hb dX5_player_48 (by decide) ?_
              refine va_put (D := (dC, dI)) (ci := 5) (v := .int (nI 0)) (ty := .int) (C := RX5) (T := TX5) (N := 25) hx hb hts hi5 tyX5 tyX5_ok nmX5 hown hK hP hD hS 0 rfl rfl 0 (by decide) f54 (fun _ h9 => h9) rfl (by decide +kernel) rfl rfl (Nat.le_of_ble_eq_true rfl) dX5_player_52 (fun H locs hP hD hS => ?_)
              have hP : va_P (dC, dI) vwCl [(om, .inr (5, [.int (nI 0), .int (nI ns), .ref apx, .ref apy, .ref act, .int (nI nb), .ref asd, .ref amv, .ref asl, .ref apl, .ref asw, .int (nI nw), .ref aor, .int (nI nc), .ref aon, .ref atw, .long mx, .long my, .ref aup, .ref alw, .int (nI nm), .long up, .long lo, .long rx, .long ry])), (asl, .inl (cZ, 576, .inl (bF fsl))), (apl, .inl (cJ, 4, .inr (.inl fpl))), (aon, .inl (cJ, 4, .inr (.inl fon))), (atw, .inl (cJ, 4, .inr (.inl ftw)))] H := hP
              have hD : va_D A [(om, .inr (5, [.int (nI 0), .int (nI ns), .ref apx, .ref apy, .ref act, .int (nI nb), .ref asd, .ref amv, .ref asl, .ref apl, .ref asw, .int (nI nw), .ref aor, .int (nI nc), .ref aon, .ref atw, .long mx, .long my, .ref aup, .ref alw, .int (nI nm), .long up, .long lo, .long rx, .long ry])), (asl, .inl (cZ, 576, .inl (bF fsl))), (apl, .inl (cJ, 4, .inr (.inl fpl))), (aon, .inl (cJ, 4, .inr (.inl fon))), (atw, .inl (cJ, 4, .inr (.inl ftw)))] := hD
              refine lv_iconst (v := (nI 0)) hx hb dX5_player_55 (by decide) ?_
              refine lv_istore (lv' := [(9, .int (nI 0)), (0, .ref om), (1, .long x), (3, .long y), (5, .long w), (7, .long h)]) hx hb dX5_player_56 hl (by decide) rfl (fun ls hl => ?_)
              refine kLoop (σ := Nat × (Nat → Int64) × (Nat → Int64) × Int64 × Int64) (fun xz H locs ls => match xz with | (t, gon, gtw, gmx, gmy) => (va_P (dC, dI) vwCl [(om, .inr (5, [.int (nI 0), .int (nI ns), .ref apx, .ref apy, .ref act, .int (nI nb), .ref asd, .ref amv, .ref asl, .ref apl, .ref asw, .int (nI nw), .ref aor, .int (nI nc), .ref aon, .ref atw, .long gmx, .long gmy, .ref aup, .ref alw, .int (nI nm), .long up, .long lo, .long rx, .long ry])), (asl, .inl (cZ, 576, .inl (bF fsl))), (apl, .inl (cJ, 4, .inr (.inl fpl))), (aon, .inl (cJ, 4, .inr (.inl gon))), (atw, .inl (cJ, 4, .inr (.inl gtw)))] H) ∧ (va_D A [(om, .inr (5, [.int (nI 0), .int (nI ns), .ref apx, .ref apy, .ref act, .int (nI nb), .ref asd, .ref amv, .ref asl, .ref apl, .ref asw, .int (nI nw), .ref aor, .int (nI nc), .ref aon, .ref atw, .long gmx, .long gmy, .ref aup, .ref alw, .int (nI nm), .long up, .long lo, .long rx, .long ry])), (asl, .inl (cZ, 576, .inl (bF fsl))), (apl, .inl (cJ, 4, .inr (.inl fpl))), (aon, .inl (cJ, 4, .inr (.inl gon))), (atw, .inl (cJ, 4, .inr (.inl gtw)))]) ∧ (va_S A s.heap H locs) ∧ (lv_has ls 10 [(0, .ref om), (1, .long x), (3, .long y), (5, .long w), (7, .long h), (9, .int (nI t))]) ∧ (t ≤ 576 ∧ ∀ j, j < t → ¬ (fsl j = true ∧ mOver x y w h j))) (fun xz => match xz with | (t, gon, gtw, gmx, gmy) => 576 - t) ?_ (0, fon, ftw, mx, my) ?_
              · rintro ⟨t, gon, gtw, gmx, gmy⟩ H locs ls hI ih58
                obtain ⟨hP, hD, hS, hl, hi58_⟩ := hI
                obtain ⟨ht, hno⟩ := hi58_
                refine lv_iload hx hb dX5_player_58 (lv_at hl 5 rfl) ?_
                refine lv_sipush (v := (nI 576)) hx hb dX5_player_60 (by decide) ?_
                refine lv_icmp_ge (tgt := 121) hx hb dX5_player_63 (by decide) (fun c63 => ?_) (fun c63 => ?_)
                · rw [nI_leI (by omega) (by omega)] at c63
                  exact absurd hbl (fun ⟨j, h1, h2⟩ => hno j (by omega) h2)
                · rw [nI_leI (by omega) (by omega), Nat.not_le] at c63
                  refine lv_aload_n hx hb dX5_player_66 rfl (lv_at hl 0 rfl) ?_
                  refine va_get (D := (dC, dI)) (ci := 5) (v := .int (nI 0)) (C := RX5) (T := TX5) (N := 25) hx hb hts hi5 hown hK hP 0 rfl rfl 0 (by decide) f54 (fun _ h9 => h9) rfl dX5_player_67 ?_
                  refine lv_if_ne (tgt := 121) hx hb dX5_player_70 (by decide) (fun c70 => ?_) (fun c70 => ?_)
                  · skip
                    exact absurd c70 (by decide)
                  · rw [← nI_0, nI_eq (by omega) (by omega)] at c70
                    refine lv_aload_n hx hb dX5_player_73 rfl (lv_at hl 0 rfl) ?_
                    refine lv_iload hx hb dX5_player_74 (lv_at hl 5 rfl) ?_
                    refine lv_bipush (v := (nI 24)) hx hb dX5_player_76 (by decide) ?_
                    refine lv_irem hx hb dX5_player_78 (by decide) ?_
                    rw [show (nI t) - (nI t) / (nI 24) * (nI 24) = (nI (t % 24)) from pk_rem (show t < 2 ^ 31 by omega) (by decide) (by decide)]
                    refine lv_iload hx hb dX5_player_79 (lv_at hl 5 rfl) ?_
                    refine lv_bipush (v := (nI 24)) hx hb dX5_player_81 (by decide) ?_
                    refine lv_idiv hx hb dX5_player_83 (by decide) ?_
                    rw [show (nI t) / (nI 24) = (nI (t / 24)) from pk_div (show t < 2 ^ 31 by omega) (by decide) (by decide)]
                    refine lv_lload_n hx hb dX5_player_84 rfl (lv_at hl 1 rfl) ?_
                    refine lv_lload_n hx hb dX5_player_85 rfl (lv_at hl 2 rfl) ?_
                    refine lv_lload hx hb dX5_player_86 (lv_at hl 3 rfl) ?_
                    refine lv_lload hx hb dX5_player_88 (lv_at hl 4 rfl) ?_
                    refine kmVv (q0 := 0) (ci := 5) (As := [.int (nI (t % 24)), .int (nI (t / 24)), .long x, .long y, .long w, .long h]) (rest := []) (WC := [(om, .inr (5, [.int (nI 0), .int (nI ns), .ref apx, .ref apy, .ref act, .int (nI nb), .ref asd, .ref amv, .ref asl, .ref apl, .ref asw, .int (nI nw), .ref aor, .int (nI nc), .ref aon, .ref atw, .long gmx, .long gmy, .ref aup, .ref alw, .int (nI nm), .long up, .long lo, .long rx, .long ry])), (aon, .inl (cJ, 4, .inr (.inl gon))), (atw, .inl (cJ, 4, .inr (.inl gtw)))]) (W2 := [(om, .inr (5, [.int (nI 0), .int (nI ns), .ref apx, .ref apy, .ref act, .int (nI nb), .ref asd, .ref amv, .ref asl, .ref apl, .ref asw, .int (nI nw), .ref aor, .int (nI nc), .ref aon, .ref atw, .long 0, .long 0, .ref aup, .ref alw, .int (nI nm), .long up, .long lo, .long rx, .long ry])), (aon, .inl (cJ, 4, .inr (.inl (mFour gon x y (x + w) (y + h))))), (atw, .inl (cJ, 4, .inr (.inl (mFour gtw (nI (16 * (t % 24))).toInt64 (nI (16 * (t / 24))).toInt64 (nI ((16 * (t % 24)) + 16)).toInt64 (nI ((16 * (t / 24)) + 16)).toInt64))))]) (WR := [(asl, .inl (cZ, 576, .inl (bF fsl))), (apl, .inl (cJ, 4, .inr (.inl fpl)))]) (WN := [(om, .inr (5, [.int (nI 0), .int (nI ns), .ref apx, .ref apy, .ref act, .int (nI nb), .ref asd, .ref amv, .ref asl, .ref apl, .ref asw, .int (nI nw), .ref aor, .int (nI nc), .ref aon, .ref atw, .long 0, .long 0, .ref aup, .ref alw, .int (nI nm), .long up, .long lo, .long rx, .long ry])), (asl, .inl (cZ, 576, .inl (bF fsl))), (apl, .inl (cJ, 4, .inr (.inl fpl))), (aon, .inl (cJ, 4, .inr (.inl (mFour gon x y (x + w) (y + h))))), (atw, .inl (cJ, 4, .inr (.inl (mFour gtw (nI (16 * (t % 24))).toInt64 (nI (16 * (t / 24))).toInt64 (nI ((16 * (t % 24)) + 16)).toInt64 (nI ((16 * (t / 24)) + 16)).toInt64))))]) (tyC := [(cJ, .long), (cI, .int), (cZ, .boolean)]) (isC := [0, 3, 4]) (isR := [1, 2]) (isN := [2, 0, 1, 3, 4]) (its := [0, 1, 2]) ⟨hx, hb, hml, hown, hts⟩ (tX5_loadTile l dC dI cJ cI cZ om 0 ns apx apy act nb asd amv asl apl asw nw aor nc aon atw aup alw nm gmx gmy up lo rx ry gon gtw (t % 24) (t / 24) x y w h) (cwV 6 hts gX5_player_X5_loadTile rfl rfl rfl (by decide +kernel) ⟨Nat.le_of_ble_eq_true rfl, Nat.le_of_ble_eq_true rfl⟩) hP hD hA hS hK rfl (by decide) rfl (by decide) (by decide) rfl (by decide) rfl rfl rfl rfl rfl hl.1 (Nat.le_of_ble_eq_true rfl) dX5_player_90 ⟨Nat.le_of_ble_eq_true rfl, Nat.le_of_ble_eq_true rfl⟩ (fun H locs hP hD hS => ?_)
                    refine lv_aload_n hx hb dX5_player_93 rfl (lv_at hl 0 rfl) ?_
                    refine va_get (D := (dC, dI)) (ci := 5) (v := .ref asl) (C := RX5) (T := TX5) (N := 25) hx hb hts hi5 hown hK hP 0 rfl rfl 8 (by decide) f26 (fun _ h9 => h9) rfl dX5_player_94 ?_
                    refine lv_iload hx hb dX5_player_97 (lv_at hl 5 rfl) ?_
                    refine va_zald hx hb hK hP 1 2 rfl rfl (vp_in_nI (show t < 576 by omega) (by omega)) dX5_player_99 ?_
                    rw [show (nI t).toNatClampNeg = t from nI_clamp (show t < 2 ^ 31 by omega)]
                    rw [show (bF fsl) t = (bI (fsl t)) from rfl]
                    refine lv_if_eq (tgt := 115) hx hb dX5_player_100 (by decide) (fun c100 => ?_) (fun c100 => ?_)
                    · replace c100 := bI_0 c100
                      refine lv_iinc (v := (nI (t + 1))) (lv' := [(9, .int (nI (t + 1))), (0, .ref om), (1, .long x), (3, .long y), (5, .long w), (7, .long h)]) hx hb dX5_player_115 hl (k := 5) rfl (show (nI t) + Int32.ofInt 1 = nI (t + 1) from nI_add t 1) (by decide) rfl (fun ls hl => ?_)
                      refine lv_goto (tgt := 58) hx hb dX5_player_118 (by decide) ?_
                      exact ih58 (t + 1, (mFour gon x y (x + w) (y + h)), (mFour gtw (nI (16 * (t % 24))).toInt64 (nI (16 * (t / 24))).toInt64 (nI ((16 * (t % 24)) + 16)).toInt64 (nI ((16 * (t / 24)) + 16)).toInt64), 0, 0) _ _ _ ⟨hP, hD, hS, lv_sub hl [1, 2, 3, 4, 5, 0] rfl, ⟨by omega, fun j hj => by rcases Nat.lt_or_ge j t with hq | hq; exact hno j hq; rw [show j = t by omega]; exact (fun z => by first | exact absurd (z.1.symm.trans c100) (by decide) | exact c110 z.2)⟩⟩ (by simp only []; omega)
                    · replace c100 := bI_n c100
                      refine lv_aload_n hx hb dX5_player_103 rfl (lv_at hl 0 rfl) ?_
                      refine lv_lconst (v := 0) hx hb dX5_player_104 (by decide) ?_
                      refine lv_lconst (v := 1) hx hb dX5_player_105 (by decide) ?_
                      refine lv_iconst (v := (nI 1)) hx hb dX5_player_106 (by decide) ?_
                      refine kpVi (q0 := 0) (ci := 5) (As := [.long 0, .long 1, .int (nI 1)]) (rest := []) (WC := [(om, .inr (5, [.int (nI 0), .int (nI ns), .ref apx, .ref apy, .ref act, .int (nI nb), .ref asd, .ref amv, .ref asl, .ref apl, .ref asw, .int (nI nw), .ref aor, .int (nI nc), .ref aon, .ref atw, .long 0, .long 0, .ref aup, .ref alw, .int (nI nm), .long up, .long lo, .long rx, .long ry])), (aon, .inl (cJ, 4, .inr (.inl (mFour gon x y (x + w) (y + h))))), (atw, .inl (cJ, 4, .inr (.inl (mFour gtw (nI (16 * (t % 24))).toInt64 (nI (16 * (t / 24))).toInt64 (nI ((16 * (t % 24)) + 16)).toInt64 (nI ((16 * (t / 24)) + 16)).toInt64))))]) (tyC := [(cJ, .long), (cI, .int), (cZ, .boolean)]) ⟨hx, hb, hml, hown, hts⟩ (tX5_isAt_t l dC dI cJ cI cZ om 0 ns apx apy act nb asd amv asl apl asw nw aor nc aon atw aup alw nm 0 0 up lo rx ry (mFour gon x y (x + w) (y + h)) (mFour gtw (nI (16 * (t % 24))).toInt64 (nI (16 * (t / 24))).toInt64 (nI ((16 * (t % 24)) + 16)).toInt64 (nI ((16 * (t / 24)) + 16)).toInt64) 0 1) (cwV 3 hts gX5_player_X5_isAt rfl rfl rfl (by decide +kernel) ⟨Nat.le_of_ble_eq_true rfl, Nat.le_of_ble_eq_true rfl⟩) (kPick (isC := [0, 3, 4]) hP rfl) (hK.sub [0, 1, 2] rfl) rfl rfl rfl rfl hl.1 (Nat.le_of_ble_eq_true rfl) dX5_player_107 ⟨Nat.le_of_ble_eq_true rfl, Nat.le_of_ble_eq_true rfl⟩ ?_
                      refine lv_if_eq (tgt := 115) hx hb dX5_player_110 (by decide) (fun c110 => ?_) (fun c110 => ?_)
                      · replace c110 := bI_0 c110; replace c110 := pB_not c110
                        refine lv_iinc (v := (nI (t + 1))) (lv' := [(9, .int (nI (t + 1))), (0, .ref om), (1, .long x), (3, .long y), (5, .long w), (7, .long h)]) hx hb dX5_player_115 hl (k := 5) rfl (show (nI t) + Int32.ofInt 1 = nI (t + 1) from nI_add t 1) (by decide) rfl (fun ls hl => ?_)
                        refine lv_goto (tgt := 58) hx hb dX5_player_118 (by decide) ?_
                        exact ih58 (t + 1, (mFour gon x y (x + w) (y + h)), (mFour gtw (nI (16 * (t % 24))).toInt64 (nI (16 * (t / 24))).toInt64 (nI ((16 * (t % 24)) + 16)).toInt64 (nI ((16 * (t / 24)) + 16)).toInt64), 0, 0) _ _ _ ⟨hP, hD, hS, lv_sub hl [1, 2, 3, 4, 5, 0] rfl, ⟨by omega, fun j hj => by rcases Nat.lt_or_ge j t with hq | hq; exact hno j hq; rw [show j = t by omega]; exact (fun z => by first | exact absurd (z.1.symm.trans c100) (by decide) | exact c110 z.2)⟩⟩ (by simp only []; omega)
                      · replace c110 := bI_n c110; replace c110 := pB_iff.mp c110
                        refine lv_iconst (v := (nI 0)) hx hb dX5_player_113 (by decide) ?_
                        exact kXz (u := ((mFour gon x y (x + w) (y + h)), (mFour gtw (nI (16 * (t % 24))).toInt64 (nI (16 * (t / 24))).toInt64 (nI ((16 * (t % 24)) + 16)).toInt64 (nI ((16 * (t / 24)) + 16)).toInt64), 0, 0)) hx hb hr hlocks hP hK hD hS dX5_player_114 rfl
              · exact ⟨hP, hD, hS, lv_sub hl [1, 2, 3, 4, 5, 0] rfl, ⟨Nat.zero_le _, fun j h => absurd h (Nat.not_lt_zero j)⟩⟩

set_option maxHeartbeats 4000000 in
set_option maxRecDepth 100000 in
theorem tX5_player_o (l : Launch) (dC : Nat → ClassId) (dI : Nat → Nat → Nat) (cJ cI cZ : ClassId) (om cd ns apx apy act nb asd amv asl apl asw nw aor nc aon atw aup alw nm : Nat) (mx my up lo rx ry : Int64) (fsl : Nat → Bool) (fpl : Nat → Int64) (fon : Nat → Int64) (ftw : Nat → Int64) (x y w h : Int64) (hok : (-10000 ≤ x ∧ x ≤ 10000) ∧ (-10000 ≤ y ∧ y ≤ 10000) ∧ 1 ≤ w ∧ w ≤ 64 ∧ 1 ≤ h ∧ h ≤ 64) (hbl : ¬ ∃ t, t < 576 ∧ fsl t = true ∧ mOver x y w h t) : XMi l yX5_player wsX5_player { frames := 2, cells := 0, slots := 0, locals := 65 } [.ref om, .long x, .long y, .long w, .long h] (dC, dI) [(om, .inr (5, [.int (nI cd), .int (nI ns), .ref apx, .ref apy, .ref act, .int (nI nb), .ref asd, .ref amv, .ref asl, .ref apl, .ref asw, .int (nI nw), .ref aor, .int (nI nc), .ref aon, .ref atw, .long mx, .long my, .ref aup, .ref alw, .int (nI nm), .long up, .long lo, .long rx, .long ry])), (asl, .inl (cZ, 576, .inl (bF fsl))), (apl, .inl (cJ, 4, .inr (.inl fpl))), (aon, .inl (cJ, 4, .inr (.inl fon))), (atw, .inl (cJ, 4, .inr (.inl ftw)))] (fun (u : (Nat → Int64) × (Nat → Int64) × Int64 × Int64) => [(om, .inr (5, [.int (nI 0), .int (nI ns), .ref apx, .ref apy, .ref act, .int (nI nb), .ref asd, .ref amv, .ref asl, .ref apl, .ref asw, .int (nI nw), .ref aor, .int (nI nc), .ref aon, .ref atw, .long u.2.2.1, .long u.2.2.2, .ref aup, .ref alw, .int (nI nm), .long up, .long lo, .long rx, .long ry])), (asl, .inl (cZ, 576, .inl (bF fsl))), (apl, .inl (cJ, 4, .inr (.inl (mFour fpl x y w h)))), (aon, .inl (cJ, 4, .inr (.inl u.1))), (atw, .inl (cJ, 4, .inr (.inl u.2.1)))]) [(cJ, .long), (cI, .int), (cZ, .boolean)] (bI true) := by
  intro sz
  refine kOf (cc := cX5_player) (maxL := 10) (ret := (some .boolean)) (by decide) rfl (Nat.le_of_ble_eq_true rfl) ?_
  intro p e s m below meth c hx hb hr hml hts hown hlocks hB ls hl
  obtain ⟨hsz, hP, hK, hD0⟩ := hB
  subst hsz
  have hD := hD0.self (sz := s.heap.size)
  generalize hAe : va_A [(om, .inr (5, [.int (nI cd), .int (nI ns), .ref apx, .ref apy, .ref act, .int (nI nb), .ref asd, .ref amv, .ref asl, .ref apl, .ref asw, .int (nI nw), .ref aor, .int (nI nc), .ref aon, .ref atw, .long mx, .long my, .ref aup, .ref alw, .int (nI nm), .long up, .long lo, .long rx, .long ry])), (asl, .inl (cZ, 576, .inl (bF fsl))), (apl, .inl (cJ, 4, .inr (.inl fpl))), (aon, .inl (cJ, 4, .inr (.inl fon))), (atw, .inl (cJ, 4, .inr (.inl ftw)))] s.heap.size = A at hD ⊢
  have hA : ∀ q : Nat, s.heap.size ≤ q → A q := fun q h => by rw [← hAe]; exact Or.inr h
  have hS : va_S A s.heap s.heap [] := va_S.rf
  have hl : lv_has ls 10 [(0, .ref om), (1, .long x), (3, .long y), (5, .long w), (7, .long h)] := hl
  have hi5 : ∀ w ∈ u_ws RX5 TX5 25, w ∈ wsX5_player := by decide +kernel
  have f26 := hts (.fieldLink RX5 26 "SweptBoxesModel" "solid" "[Z") (by decide +kernel)
  have f30 := hts (.fieldLink RX5 30 "SweptBoxesModel" "player" "[J") (by decide +kernel)
  have f54 := hts (.fieldLink RX5 54 "SweptBoxesModel" "code" "I") (by decide +kernel)
  refine lv_aload_n hx hb dX5_player_0 rfl (lv_at hl 0 rfl) ?_
  refine lv_lload_n hx hb dX5_player_1 rfl (lv_at hl 1 rfl) ?_
  refine kpSi (As := [.long x]) (rest := [.ref om]) (WC := []) (tyC := []) ⟨hx, hb, hml, hown, hts⟩ (tX5_isIn l dC dI x) (cwS 1 hts gX5_player_X5_isIn rfl rfl rfl (by decide +kernel) ⟨Nat.le_of_ble_eq_true rfl, Nat.le_of_ble_eq_true rfl⟩) (kPick (isC := []) hP rfl) (hK.sub [] rfl) rfl rfl hl.1 (Nat.le_of_ble_eq_true rfl) dX5_player_2 ⟨Nat.le_of_ble_eq_true rfl, Nat.le_of_ble_eq_true rfl⟩ ?_
  refine lv_if_eq (tgt := 51) hx hb dX5_player_5 (by decide) (fun c5 => ?_) (fun c5 => ?_)
  · replace c5 := bI_0 c5; replace c5 := of_decide_eq_false c5
    exact absurd hok.1 c5
  · replace c5 := bI_n c5; replace c5 := of_decide_eq_true c5
    refine lv_lload_n hx hb dX5_player_8 rfl (lv_at hl 2 rfl) ?_
    refine kpSi (As := [.long y]) (rest := [.ref om]) (WC := []) (tyC := []) ⟨hx, hb, hml, hown, hts⟩ (tX5_isIn l dC dI y) (cwS 1 hts gX5_player_X5_isIn rfl rfl rfl (by decide +kernel) ⟨Nat.le_of_ble_eq_true rfl, Nat.le_of_ble_eq_true rfl⟩) (kPick (isC := []) hP rfl) (hK.sub [] rfl) rfl rfl hl.1 (Nat.le_of_ble_eq_true rfl) dX5_player_9 ⟨Nat.le_of_ble_eq_true rfl, Nat.le_of_ble_eq_true rfl⟩ ?_
    refine lv_if_eq (tgt := 51) hx hb dX5_player_12 (by decide) (fun c12 => ?_) (fun c12 => ?_)
    · replace c12 := bI_0 c12; replace c12 := of_decide_eq_false c12
      exact absurd hok.2.1 c12
    · replace c12 := bI_n c12; replace c12 := of_decide_eq_true c12
      refine lv_lload hx hb dX5_player_15 (lv_at hl 3 rfl) ?_
      refine lv_lconst (v := 1) hx hb dX5_player_17 (by decide) ?_
      refine W.lcmp hx hb dX5_player_18 ?_
      refine lv_if_lt (tgt := 51) hx hb dX5_player_19 (by decide) (fun c19 => ?_) (fun c19 => ?_)
      · rw [lg_cmp_lt] at c19
        exact absurd hok.2.2.1 (Int64.not_le.mpr c19)
      · rw [lg_cmp_lt, Int64.not_lt] at c19
        refine lv_lload hx hb dX5_player_22 (lv_at hl 3 rfl) ?_
        refine lv_ldc2 hx hb hown (hts (.constantLong RX5 185 (64)) (by decide +kernel)) dX5_player_24 ?_
        refine W.lcmp hx hb dX5_player_27 ?_
        refine lv_if_gt (tgt := 51) hx hb dX5_player_28 (by decide) (fun c28 => ?_) (fun c28 => ?_)
        · rw [lg_cmp_gt] at c28
          exact absurd hok.2.2.2.1 (Int64.not_le.mpr c28)
        · rw [lg_cmp_gt, Int64.not_lt] at c28
          refine lv_lload hx hb dX5_player_31 (lv_at hl 4 rfl) ?_
          refine lv_lconst (v := 1) hx hb dX5_player_33 (by decide) ?_
          refine W.lcmp hx hb dX5_player_34 ?_
          refine lv_if_lt (tgt := 51) hx hb dX5_player_35 (by decide) (fun c35 => ?_) (fun c35 => ?_)
          · rw [lg_cmp_lt] at c35
            exact absurd hok.2.2.2.2.1 (Int64.not_le.mpr c35)
          · rw [lg_cmp_lt, Int64.not_lt] at c35
            refine lv_lload hx hb dX5_player_38 (lv_at hl 4 rfl) ?_
            refine lv_ldc2 hx hb hown (hts (.constantLong RX5 185 (64)) (by decide +kernel)) dX5_player_40 ?_
            refine W.lcmp hx hb dX5_player_43 ?_
            refine lv_if_gt (tgt := 51) hx hb dX5_player_44 (by decide) (fun c44 => ?_) (fun c44 => ?_)
            · rw [lg_cmp_gt] at c44
              exact absurd hok.2.2.2.2.2 (Int64.not_le.mpr c44)
            · rw [lg_cmp_gt, Int64.not_lt] at c44
              refine lv_iconst (v := (nI 0)) hx hb dX5_player_47 (by decide) ?_
              refine lv_goto (tgt := 52) hx hb dX5_player_48 (by decide) ?_
              refine va_put (D := (dC, dI)) (ci := 5) (v := .int (nI 0)) (ty := .int) (C := RX5) (T := TX5) (N := 25) hx hb hts hi5 tyX5 tyX5_ok nmX5 hown hK hP hD hS 0 rfl rfl 0 (by decide) f54 (fun _ h9 => h9) rfl (by decide +kernel) rfl rfl (Nat.le_of_ble_eq_true rfl) dX5_player_52 (fun H locs hP hD hS => ?_)
              have hP : va_P (dC, dI) vwCl [(om, .inr (5, [.int (nI 0), .int (nI ns), .ref apx, .ref apy, .ref act, .int (nI nb), .ref asd, .ref amv, .ref asl, .ref apl, .ref asw, .int (nI nw), .ref aor, .int (nI nc), .ref aon, .ref atw, .long mx, .long my, .ref aup, .ref alw, .int (nI nm), .long up, .long lo, .long rx, .long ry])), (asl, .inl (cZ, 576, .inl (bF fsl))), (apl, .inl (cJ, 4, .inr (.inl fpl))), (aon, .inl (cJ, 4, .inr (.inl fon))), (atw, .inl (cJ, 4, .inr (.inl ftw)))] H := hP
              have hD : va_D A [(om, .inr (5, [.int (nI 0), .int (nI ns), .ref apx, .ref apy, .ref act, .int (nI nb), .ref asd, .ref amv, .ref asl, .ref apl, .ref asw, .int (nI nw), .ref aor, .int (nI nc), .ref aon, .ref atw, .long mx, .long my, .ref aup, .ref alw, .int (nI nm), .long up, .long lo, .long rx, .long ry])), (asl, .inl (cZ, 576, .inl (bF fsl))), (apl, .inl (cJ, 4, .inr (.inl fpl))), (aon, .inl (cJ, 4, .inr (.inl fon))), (atw, .inl (cJ, 4, .inr (.inl ftw)))] := hD
              refine lv_iconst (v := (nI 0)) hx hb dX5_player_55 (by decide) ?_
              refine lv_istore (lv' := [(9, .int (nI 0)), (0, .ref om), (1, .long x), (3, .long y), (5, .long w), (7, .long h)]) hx hb dX5_player_56 hl (by decide) rfl (fun ls hl => ?_)
              refine kLoop (σ := Nat × (Nat → Int64) × (Nat → Int64) × Int64 × Int64) (fun xz H locs ls => match xz with | (t, gon, gtw, gmx, gmy) => (va_P (dC, dI) vwCl [(om, .inr (5, [.int (nI 0), .int (nI ns), .ref apx, .ref apy, .ref act, .int (nI nb), .ref asd, .ref amv, .ref asl, .ref apl, .ref asw, .int (nI nw), .ref aor, .int (nI nc), .ref aon, .ref atw, .long gmx, .long gmy, .ref aup, .ref alw, .int (nI nm), .long up, .long lo, .long rx, .long ry])), (asl, .inl (cZ, 576, .inl (bF fsl))), (apl, .inl (cJ, 4, .inr (.inl fpl))), (aon, .inl (cJ, 4, .inr (.inl gon))), (atw, .inl (cJ, 4, .inr (.inl gtw)))] H) ∧ (va_D A [(om, .inr (5, [.int (nI 0), .int (nI ns), .ref apx, .ref apy, .ref act, .int (nI nb), .ref asd, .ref amv, .ref asl, .ref apl, .ref asw, .int (nI nw), .ref aor, .int (nI nc), .ref aon, .ref atw, .long gmx, .long gmy, .ref aup, .ref alw, .int (nI nm), .long up, .long lo, .long rx, .long ry])), (asl, .inl (cZ, 576, .inl (bF fsl))), (apl, .inl (cJ, 4, .inr (.inl fpl))), (aon, .inl (cJ, 4, .inr (.inl gon))), (atw, .inl (cJ, 4, .inr (.inl gtw)))]) ∧ (va_S A s.heap H locs) ∧ (lv_has ls 10 [(0, .ref om), (1, .long x), (3, .long y), (5, .long w), (7, .long h), (9, .int (nI t))]) ∧ (t ≤ 576 ∧ ∀ j, j < t → ¬ (fsl j = true ∧ mOver x y w h j))) (fun xz => match xz with | (t, gon, gtw, gmx, gmy) => 576 - t) ?_ (0, fon, ftw, mx, my) ?_
              · rintro ⟨t, gon, gtw, gmx, gmy⟩ H locs ls hI ih58
                obtain ⟨hP, hD, hS, hl, hi58_⟩ := hI
                obtain ⟨ht, hno⟩ := hi58_
                refine lv_iload hx hb dX5_player_58 (lv_at hl 5 rfl) ?_
                refine lv_sipush (v := (nI 576)) hx hb dX5_player_60 (by decide) ?_
                refine lv_icmp_ge (tgt := 121) hx hb dX5_player_63 (by decide) (fun c63 => ?_) (fun c63 => ?_)
                · rw [nI_leI (by omega) (by omega)] at c63
                  refine lv_aload_n hx hb dX5_player_121 rfl (lv_at hl 0 rfl) ?_
                  refine va_get (D := (dC, dI)) (ci := 5) (v := .int (nI 0)) (C := RX5) (T := TX5) (N := 25) hx hb hts hi5 hown hK hP 0 rfl rfl 0 (by decide) f54 (fun _ h9 => h9) rfl dX5_player_122 ?_
                  refine lv_if_le (tgt := 130) hx hb dX5_player_125 (by decide) (fun c125 => ?_) (fun c125 => ?_)
                  · rw [← nI_0, nI_leI (by omega) (by omega)] at c125
                    refine lv_aload_n hx hb dX5_player_130 rfl (lv_at hl 0 rfl) ?_
                    refine va_get (D := (dC, dI)) (ci := 5) (v := .ref apl) (C := RX5) (T := TX5) (N := 25) hx hb hts hi5 hown hK hP 0 rfl rfl 9 (by decide) f30 (fun _ h9 => h9) rfl dX5_player_131 ?_
                    refine lv_iconst (v := (nI 0)) hx hb dX5_player_134 (by decide) ?_
                    refine lv_lload_n hx hb dX5_player_135 rfl (lv_at hl 1 rfl) ?_
                    refine va_last hx hb hK hP hD hS 2 0 rfl rfl (vp_in_nI (show 0 < 4 by omega) (by omega)) dX5_player_136 (fun H locs hP hD hS => ?_)
                    rw [show (nI 0).toNatClampNeg = 0 from nI_clamp (show 0 < 2 ^ 31 by omega)] at hP hD
                    have hP : va_P (dC, dI) vwCl [(om, .inr (5, [.int (nI 0), .int (nI ns), .ref apx, .ref apy, .ref act, .int (nI nb), .ref asd, .ref amv, .ref asl, .ref apl, .ref asw, .int (nI nw), .ref aor, .int (nI nc), .ref aon, .ref atw, .long gmx, .long gmy, .ref aup, .ref alw, .int (nI nm), .long up, .long lo, .long rx, .long ry])), (asl, .inl (cZ, 576, .inl (bF fsl))), (apl, .inl (cJ, 4, .inr (.inl (vp_updL fpl 0 x)))), (aon, .inl (cJ, 4, .inr (.inl gon))), (atw, .inl (cJ, 4, .inr (.inl gtw)))] H := hP
                    have hD : va_D A [(om, .inr (5, [.int (nI 0), .int (nI ns), .ref apx, .ref apy, .ref act, .int (nI nb), .ref asd, .ref amv, .ref asl, .ref apl, .ref asw, .int (nI nw), .ref aor, .int (nI nc), .ref aon, .ref atw, .long gmx, .long gmy, .ref aup, .ref alw, .int (nI nm), .long up, .long lo, .long rx, .long ry])), (asl, .inl (cZ, 576, .inl (bF fsl))), (apl, .inl (cJ, 4, .inr (.inl (vp_updL fpl 0 x)))), (aon, .inl (cJ, 4, .inr (.inl gon))), (atw, .inl (cJ, 4, .inr (.inl gtw)))] := hD
                    refine lv_aload_n hx hb dX5_player_137 rfl (lv_at hl 0 rfl) ?_
                    refine va_get (D := (dC, dI)) (ci := 5) (v := .ref apl) (C := RX5) (T := TX5) (N := 25) hx hb hts hi5 hown hK hP 0 rfl rfl 9 (by decide) f30 (fun _ h9 => h9) rfl dX5_player_138 ?_
                    refine lv_iconst (v := (nI 1)) hx hb dX5_player_141 (by decide) ?_
                    refine lv_lload_n hx hb dX5_player_142 rfl (lv_at hl 2 rfl) ?_
                    refine va_last hx hb hK hP hD hS 2 0 rfl rfl (vp_in_nI (show 1 < 4 by omega) (by omega)) dX5_player_143 (fun H locs hP hD hS => ?_)
                    rw [show (nI 1).toNatClampNeg = 1 from nI_clamp (show 1 < 2 ^ 31 by omega)] at hP hD
                    have hP : va_P (dC, dI) vwCl [(om, .inr (5, [.int (nI 0), .int (nI ns), .ref apx, .ref apy, .ref act, .int (nI nb), .ref asd, .ref amv, .ref asl, .ref apl, .ref asw, .int (nI nw), .ref aor, .int (nI nc), .ref aon, .ref atw, .long gmx, .long gmy, .ref aup, .ref alw, .int (nI nm), .long up, .long lo, .long rx, .long ry])), (asl, .inl (cZ, 576, .inl (bF fsl))), (apl, .inl (cJ, 4, .inr (.inl (vp_updL (vp_updL fpl 0 x) 1 y)))), (aon, .inl (cJ, 4, .inr (.inl gon))), (atw, .inl (cJ, 4, .inr (.inl gtw)))] H := hP
                    have hD : va_D A [(om, .inr (5, [.int (nI 0), .int (nI ns), .ref apx, .ref apy, .ref act, .int (nI nb), .ref asd, .ref amv, .ref asl, .ref apl, .ref asw, .int (nI nw), .ref aor, .int (nI nc), .ref aon, .ref atw, .long gmx, .long gmy, .ref aup, .ref alw, .int (nI nm), .long up, .long lo, .long rx, .long ry])), (asl, .inl (cZ, 576, .inl (bF fsl))), (apl, .inl (cJ, 4, .inr (.inl (vp_updL (vp_updL fpl 0 x) 1 y)))), (aon, .inl (cJ, 4, .inr (.inl gon))), (atw, .inl (cJ, 4, .inr (.inl gtw)))] := hD
                    refine lv_aload_n hx hb dX5_player_144 rfl (lv_at hl 0 rfl) ?_
                    refine va_get (D := (dC, dI)) (ci := 5) (v := .ref apl) (C := RX5) (T := TX5) (N := 25) hx hb hts hi5 hown hK hP 0 rfl rfl 9 (by decide) f30 (fun _ h9 => h9) rfl dX5_player_145 ?_
                    refine lv_iconst (v := (nI 2)) hx hb dX5_player_148 (by decide) ?_
                    refine lv_lload hx hb dX5_player_149 (lv_at hl 3 rfl) ?_
                    refine va_last hx hb hK hP hD hS 2 0 rfl rfl (vp_in_nI (show 2 < 4 by omega) (by omega)) dX5_player_151 (fun H locs hP hD hS => ?_)
                    rw [show (nI 2).toNatClampNeg = 2 from nI_clamp (show 2 < 2 ^ 31 by omega)] at hP hD
                    have hP : va_P (dC, dI) vwCl [(om, .inr (5, [.int (nI 0), .int (nI ns), .ref apx, .ref apy, .ref act, .int (nI nb), .ref asd, .ref amv, .ref asl, .ref apl, .ref asw, .int (nI nw), .ref aor, .int (nI nc), .ref aon, .ref atw, .long gmx, .long gmy, .ref aup, .ref alw, .int (nI nm), .long up, .long lo, .long rx, .long ry])), (asl, .inl (cZ, 576, .inl (bF fsl))), (apl, .inl (cJ, 4, .inr (.inl (vp_updL (vp_updL (vp_updL fpl 0 x) 1 y) 2 w)))), (aon, .inl (cJ, 4, .inr (.inl gon))), (atw, .inl (cJ, 4, .inr (.inl gtw)))] H := hP
                    have hD : va_D A [(om, .inr (5, [.int (nI 0), .int (nI ns), .ref apx, .ref apy, .ref act, .int (nI nb), .ref asd, .ref amv, .ref asl, .ref apl, .ref asw, .int (nI nw), .ref aor, .int (nI nc), .ref aon, .ref atw, .long gmx, .long gmy, .ref aup, .ref alw, .int (nI nm), .long up, .long lo, .long rx, .long ry])), (asl, .inl (cZ, 576, .inl (bF fsl))), (apl, .inl (cJ, 4, .inr (.inl (vp_updL (vp_updL (vp_updL fpl 0 x) 1 y) 2 w)))), (aon, .inl (cJ, 4, .inr (.inl gon))), (atw, .inl (cJ, 4, .inr (.inl gtw)))] := hD
                    refine lv_aload_n hx hb dX5_player_152 rfl (lv_at hl 0 rfl) ?_
                    refine va_get (D := (dC, dI)) (ci := 5) (v := .ref apl) (C := RX5) (T := TX5) (N := 25) hx hb hts hi5 hown hK hP 0 rfl rfl 9 (by decide) f30 (fun _ h9 => h9) rfl dX5_player_153 ?_
                    refine lv_iconst (v := (nI 3)) hx hb dX5_player_156 (by decide) ?_
                    refine lv_lload hx hb dX5_player_157 (lv_at hl 4 rfl) ?_
                    refine va_last hx hb hK hP hD hS 2 0 rfl rfl (vp_in_nI (show 3 < 4 by omega) (by omega)) dX5_player_159 (fun H locs hP hD hS => ?_)
                    rw [show (nI 3).toNatClampNeg = 3 from nI_clamp (show 3 < 2 ^ 31 by omega)] at hP hD
                    have hP : va_P (dC, dI) vwCl [(om, .inr (5, [.int (nI 0), .int (nI ns), .ref apx, .ref apy, .ref act, .int (nI nb), .ref asd, .ref amv, .ref asl, .ref apl, .ref asw, .int (nI nw), .ref aor, .int (nI nc), .ref aon, .ref atw, .long gmx, .long gmy, .ref aup, .ref alw, .int (nI nm), .long up, .long lo, .long rx, .long ry])), (asl, .inl (cZ, 576, .inl (bF fsl))), (apl, .inl (cJ, 4, .inr (.inl (vp_updL (vp_updL (vp_updL (vp_updL fpl 0 x) 1 y) 2 w) 3 h)))), (aon, .inl (cJ, 4, .inr (.inl gon))), (atw, .inl (cJ, 4, .inr (.inl gtw)))] H := hP
                    have hD : va_D A [(om, .inr (5, [.int (nI 0), .int (nI ns), .ref apx, .ref apy, .ref act, .int (nI nb), .ref asd, .ref amv, .ref asl, .ref apl, .ref asw, .int (nI nw), .ref aor, .int (nI nc), .ref aon, .ref atw, .long gmx, .long gmy, .ref aup, .ref alw, .int (nI nm), .long up, .long lo, .long rx, .long ry])), (asl, .inl (cZ, 576, .inl (bF fsl))), (apl, .inl (cJ, 4, .inr (.inl (vp_updL (vp_updL (vp_updL (vp_updL fpl 0 x) 1 y) 2 w) 3 h)))), (aon, .inl (cJ, 4, .inr (.inl gon))), (atw, .inl (cJ, 4, .inr (.inl gtw)))] := hD
                    refine lv_iconst (v := (nI 1)) hx hb dX5_player_160 (by decide) ?_
                    have hq0 : (mFour fpl x y w h) = (vp_updL (vp_updL (vp_updL (vp_updL fpl 0 x) 1 y) 2 w) 3 h) := rfl
                    have hw : ([(om, .inr (5, [.int (nI 0), .int (nI ns), .ref apx, .ref apy, .ref act, .int (nI nb), .ref asd, .ref amv, .ref asl, .ref apl, .ref asw, .int (nI nw), .ref aor, .int (nI nc), .ref aon, .ref atw, .long gmx, .long gmy, .ref aup, .ref alw, .int (nI nm), .long up, .long lo, .long rx, .long ry])), (asl, .inl (cZ, 576, .inl (bF fsl))), (apl, .inl (cJ, 4, .inr (.inl (vp_updL (vp_updL (vp_updL (vp_updL fpl 0 x) 1 y) 2 w) 3 h)))), (aon, .inl (cJ, 4, .inr (.inl gon))), (atw, .inl (cJ, 4, .inr (.inl gtw)))] : va_W) = [(om, .inr (5, [.int (nI 0), .int (nI ns), .ref apx, .ref apy, .ref act, .int (nI nb), .ref asd, .ref amv, .ref asl, .ref apl, .ref asw, .int (nI nw), .ref aor, .int (nI nc), .ref aon, .ref atw, .long gmx, .long gmy, .ref aup, .ref alw, .int (nI nm), .long up, .long lo, .long rx, .long ry])), (asl, .inl (cZ, 576, .inl (bF fsl))), (apl, .inl (cJ, 4, .inr (.inl (mFour fpl x y w h)))), (aon, .inl (cJ, 4, .inr (.inl gon))), (atw, .inl (cJ, 4, .inr (.inl gtw)))] := by rw [hq0]
                    rw [hw] at hP hD
                    exact kXz (u := (gon, gtw, gmx, gmy)) hx hb hr hlocks hP hK hD hS dX5_player_161 rfl
                  · skip
                    exact absurd c125 (by decide)
                · rw [nI_leI (by omega) (by omega), Nat.not_le] at c63
                  refine lv_aload_n hx hb dX5_player_66 rfl (lv_at hl 0 rfl) ?_
                  refine va_get (D := (dC, dI)) (ci := 5) (v := .int (nI 0)) (C := RX5) (T := TX5) (N := 25) hx hb hts hi5 hown hK hP 0 rfl rfl 0 (by decide) f54 (fun _ h9 => h9) rfl dX5_player_67 ?_
                  refine lv_if_ne (tgt := 121) hx hb dX5_player_70 (by decide) (fun c70 => ?_) (fun c70 => ?_)
                  · skip
                    exact absurd c70 (by decide)
                  · rw [← nI_0, nI_eq (by omega) (by omega)] at c70
                    refine lv_aload_n hx hb dX5_player_73 rfl (lv_at hl 0 rfl) ?_
                    refine lv_iload hx hb dX5_player_74 (lv_at hl 5 rfl) ?_
                    refine lv_bipush (v := (nI 24)) hx hb dX5_player_76 (by decide) ?_
                    refine lv_irem hx hb dX5_player_78 (by decide) ?_
                    rw [show (nI t) - (nI t) / (nI 24) * (nI 24) = (nI (t % 24)) from pk_rem (show t < 2 ^ 31 by omega) (by decide) (by decide)]
                    refine lv_iload hx hb dX5_player_79 (lv_at hl 5 rfl) ?_
                    refine lv_bipush (v := (nI 24)) hx hb dX5_player_81 (by decide) ?_
                    refine lv_idiv hx hb dX5_player_83 (by decide) ?_
                    rw [show (nI t) / (nI 24) = (nI (t / 24)) from pk_div (show t < 2 ^ 31 by omega) (by decide) (by decide)]
                    refine lv_lload_n hx hb dX5_player_84 rfl (lv_at hl 1 rfl) ?_
                    refine lv_lload_n hx hb dX5_player_85 rfl (lv_at hl 2 rfl) ?_
                    refine lv_lload hx hb dX5_player_86 (lv_at hl 3 rfl) ?_
                    refine lv_lload hx hb dX5_player_88 (lv_at hl 4 rfl) ?_
                    refine kmVv (q0 := 0) (ci := 5) (As := [.int (nI (t % 24)), .int (nI (t / 24)), .long x, .long y, .long w, .long h]) (rest := []) (WC := [(om, .inr (5, [.int (nI 0), .int (nI ns), .ref apx, .ref apy, .ref act, .int (nI nb), .ref asd, .ref amv, .ref asl, .ref apl, .ref asw, .int (nI nw), .ref aor, .int (nI nc), .ref aon, .ref atw, .long gmx, .long gmy, .ref aup, .ref alw, .int (nI nm), .long up, .long lo, .long rx, .long ry])), (aon, .inl (cJ, 4, .inr (.inl gon))), (atw, .inl (cJ, 4, .inr (.inl gtw)))]) (W2 := [(om, .inr (5, [.int (nI 0), .int (nI ns), .ref apx, .ref apy, .ref act, .int (nI nb), .ref asd, .ref amv, .ref asl, .ref apl, .ref asw, .int (nI nw), .ref aor, .int (nI nc), .ref aon, .ref atw, .long 0, .long 0, .ref aup, .ref alw, .int (nI nm), .long up, .long lo, .long rx, .long ry])), (aon, .inl (cJ, 4, .inr (.inl (mFour gon x y (x + w) (y + h))))), (atw, .inl (cJ, 4, .inr (.inl (mFour gtw (nI (16 * (t % 24))).toInt64 (nI (16 * (t / 24))).toInt64 (nI ((16 * (t % 24)) + 16)).toInt64 (nI ((16 * (t / 24)) + 16)).toInt64))))]) (WR := [(asl, .inl (cZ, 576, .inl (bF fsl))), (apl, .inl (cJ, 4, .inr (.inl fpl)))]) (WN := [(om, .inr (5, [.int (nI 0), .int (nI ns), .ref apx, .ref apy, .ref act, .int (nI nb), .ref asd, .ref amv, .ref asl, .ref apl, .ref asw, .int (nI nw), .ref aor, .int (nI nc), .ref aon, .ref atw, .long 0, .long 0, .ref aup, .ref alw, .int (nI nm), .long up, .long lo, .long rx, .long ry])), (asl, .inl (cZ, 576, .inl (bF fsl))), (apl, .inl (cJ, 4, .inr (.inl fpl))), (aon, .inl (cJ, 4, .inr (.inl (mFour gon x y (x + w) (y + h))))), (atw, .inl (cJ, 4, .inr (.inl (mFour gtw (nI (16 * (t % 24))).toInt64 (nI (16 * (t / 24))).toInt64 (nI ((16 * (t % 24)) + 16)).toInt64 (nI ((16 * (t / 24)) + 16)).toInt64))))]) (tyC := [(cJ, .long), (cI, .int), (cZ, .boolean)]) (isC := [0, 3, 4]) (isR := [1, 2]) (isN := [2, 0, 1, 3, 4]) (its := [0, 1, 2]) ⟨hx, hb, hml, hown, hts⟩ (tX5_loadTile l dC dI cJ cI cZ om 0 ns apx apy act nb asd amv asl apl asw nw aor nc aon atw aup alw nm gmx gmy up lo rx ry gon gtw (t % 24) (t / 24) x y w h) (cwV 6 hts gX5_player_X5_loadTile rfl rfl rfl (by decide +kernel) ⟨Nat.le_of_ble_eq_true rfl, Nat.le_of_ble_eq_true rfl⟩) hP hD hA hS hK rfl (by decide) rfl (by decide) (by decide) rfl (by decide) rfl rfl rfl rfl rfl hl.1 (Nat.le_of_ble_eq_true rfl) dX5_player_90 ⟨Nat.le_of_ble_eq_true rfl, Nat.le_of_ble_eq_true rfl⟩ (fun H locs hP hD hS => ?_)
                    refine lv_aload_n hx hb dX5_player_93 rfl (lv_at hl 0 rfl) ?_
                    refine va_get (D := (dC, dI)) (ci := 5) (v := .ref asl) (C := RX5) (T := TX5) (N := 25) hx hb hts hi5 hown hK hP 0 rfl rfl 8 (by decide) f26 (fun _ h9 => h9) rfl dX5_player_94 ?_
                    refine lv_iload hx hb dX5_player_97 (lv_at hl 5 rfl) ?_
                    refine va_zald hx hb hK hP 1 2 rfl rfl (vp_in_nI (show t < 576 by omega) (by omega)) dX5_player_99 ?_
                    rw [show (nI t).toNatClampNeg = t from nI_clamp (show t < 2 ^ 31 by omega)]
                    rw [show (bF fsl) t = (bI (fsl t)) from rfl]
                    refine lv_if_eq (tgt := 115) hx hb dX5_player_100 (by decide) (fun c100 => ?_) (fun c100 => ?_)
                    · replace c100 := bI_0 c100
                      refine lv_iinc (v := (nI (t + 1))) (lv' := [(9, .int (nI (t + 1))), (0, .ref om), (1, .long x), (3, .long y), (5, .long w), (7, .long h)]) hx hb dX5_player_115 hl (k := 5) rfl (show (nI t) + Int32.ofInt 1 = nI (t + 1) from nI_add t 1) (by decide) rfl (fun ls hl => ?_)
                      refine lv_goto (tgt := 58) hx hb dX5_player_118 (by decide) ?_
                      exact ih58 (t + 1, (mFour gon x y (x + w) (y + h)), (mFour gtw (nI (16 * (t % 24))).toInt64 (nI (16 * (t / 24))).toInt64 (nI ((16 * (t % 24)) + 16)).toInt64 (nI ((16 * (t / 24)) + 16)).toInt64), 0, 0) _ _ _ ⟨hP, hD, hS, lv_sub hl [1, 2, 3, 4, 5, 0] rfl, ⟨by omega, fun j hj => by rcases Nat.lt_or_ge j t with hq | hq; exact hno j hq; rw [show j = t by omega]; exact (fun z => by first | exact absurd (z.1.symm.trans c100) (by decide) | exact c110 z.2)⟩⟩ (by simp only []; omega)
                    · replace c100 := bI_n c100
                      refine lv_aload_n hx hb dX5_player_103 rfl (lv_at hl 0 rfl) ?_
                      refine lv_lconst (v := 0) hx hb dX5_player_104 (by decide) ?_
                      refine lv_lconst (v := 1) hx hb dX5_player_105 (by decide) ?_
                      refine lv_iconst (v := (nI 1)) hx hb dX5_player_106 (by decide) ?_
                      refine kpVi (q0 := 0) (ci := 5) (As := [.long 0, .long 1, .int (nI 1)]) (rest := []) (WC := [(om, .inr (5, [.int (nI 0), .int (nI ns), .ref apx, .ref apy, .ref act, .int (nI nb), .ref asd, .ref amv, .ref asl, .ref apl, .ref asw, .int (nI nw), .ref aor, .int (nI nc), .ref aon, .ref atw, .long 0, .long 0, .ref aup, .ref alw, .int (nI nm), .long up, .long lo, .long rx, .long ry])), (aon, .inl (cJ, 4, .inr (.inl (mFour gon x y (x + w) (y + h))))), (atw, .inl (cJ, 4, .inr (.inl (mFour gtw (nI (16 * (t % 24))).toInt64 (nI (16 * (t / 24))).toInt64 (nI ((16 * (t % 24)) + 16)).toInt64 (nI ((16 * (t / 24)) + 16)).toInt64))))]) (tyC := [(cJ, .long), (cI, .int), (cZ, .boolean)]) ⟨hx, hb, hml, hown, hts⟩ (tX5_isAt_t l dC dI cJ cI cZ om 0 ns apx apy act nb asd amv asl apl asw nw aor nc aon atw aup alw nm 0 0 up lo rx ry (mFour gon x y (x + w) (y + h)) (mFour gtw (nI (16 * (t % 24))).toInt64 (nI (16 * (t / 24))).toInt64 (nI ((16 * (t % 24)) + 16)).toInt64 (nI ((16 * (t / 24)) + 16)).toInt64) 0 1) (cwV 3 hts gX5_player_X5_isAt rfl rfl rfl (by decide +kernel) ⟨Nat.le_of_ble_eq_true rfl, Nat.le_of_ble_eq_true rfl⟩) (kPick (isC := [0, 3, 4]) hP rfl) (hK.sub [0, 1, 2] rfl) rfl rfl rfl rfl hl.1 (Nat.le_of_ble_eq_true rfl) dX5_player_107 ⟨Nat.le_of_ble_eq_true rfl, Nat.le_of_ble_eq_true rfl⟩ ?_
                      refine lv_if_eq (tgt := 115) hx hb dX5_player_110 (by decide) (fun c110 => ?_) (fun c110 => ?_)
                      · replace c110 := bI_0 c110; replace c110 := pB_not c110
                        refine lv_iinc (v := (nI (t + 1))) (lv' := [(9, .int (nI (t + 1))), (0, .ref om), (1, .long x), (3, .long y), (5, .long w), (7, .long h)]) hx hb dX5_player_115 hl (k := 5) rfl (show (nI t) + Int32.ofInt 1 = nI (t + 1) from nI_add t 1) (by decide) rfl (fun ls hl => ?_)
                        refine lv_goto (tgt := 58) hx hb dX5_player_118 (by decide) ?_
                        exact ih58 (t + 1, (mFour gon x y (x + w) (y + h)), (mFour gtw (nI (16 * (t % 24))).toInt64 (nI (16 * (t / 24))).toInt64 (nI ((16 * (t % 24)) + 16)).toInt64 (nI ((16 * (t / 24)) + 16)).toInt64), 0, 0) _ _ _ ⟨hP, hD, hS, lv_sub hl [1, 2, 3, 4, 5, 0] rfl, ⟨by omega, fun j hj => by rcases Nat.lt_or_ge j t with hq | hq; exact hno j hq; rw [show j = t by omega]; exact (fun z => by first | exact absurd (z.1.symm.trans c100) (by decide) | exact c110 z.2)⟩⟩ (by simp only []; omega)
                      · replace c110 := bI_n c110; replace c110 := pB_iff.mp c110
                        exact absurd ⟨t, c63, c100, c110⟩ hbl
              · exact ⟨hP, hD, hS, lv_sub hl [1, 2, 3, 4, 5, 0] rfl, ⟨Nat.zero_le _, fun j h => absurd h (Nat.not_lt_zero j)⟩⟩
