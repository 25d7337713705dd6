set_option maxHeartbeats 4000000 in
set_option maxRecDepth 100000 in
theorem tX5_clear (l : Launch) (dC : Nat → ClassId) (dI : Nat → Nat → Nat) (cJ cI cZ : ClassId) (om cd ns apx apy act nb asd amv asl apl asw nw aor nc aon atw aup alw nm : Nat) (mx my up lo rx ry : Int64) (fsl : Nat → Bool) (fpl : Nat → Int64)   : MMv l yX5_clear wsX5_clear { frames := 1, cells := 0, slots := 0, locals := 21 } [.ref om] (dC, dI) [(om, .inr (5, [.int (nI cd), .int (nI ns), .ref apx, .ref apy, .ref act, .int (nI nb), .ref asd, .ref amv, .ref asl, .ref apl, .ref asw, .int (nI nw), .ref aor, .int (nI nc), .ref aon, .ref atw, .long mx, .long my, .ref aup, .ref alw, .int (nI nm), .long up, .long lo, .long rx, .long ry])), (asl, .inl (cZ, 576, .inl (bF fsl))), (apl, .inl (cJ, 4, .inr (.inl fpl)))] [(om, .inr (5, [.int (nI 0), .int (nI 0), .ref apx, .ref apy, .ref act, .int (nI 0), .ref asd, .ref amv, .ref asl, .ref apl, .ref asw, .int (nI 0), .ref aor, .int (nI nc), .ref aon, .ref atw, .long mx, .long my, .ref aup, .ref alw, .int (nI nm), .long up, .long lo, .long rx, .long ry])), (asl, .inl (cZ, 576, .inl (bF (zeroTo fsl 576)))), (apl, .inl (cJ, 4, .inr (.inl (plNew fpl))))] [(cJ, .long), (cI, .int), (cZ, .boolean)] := by
  intro sz
  refine kOf (cc := cX5_clear) (maxL := 1) (ret := none) (by decide) rfl (Nat.le_of_ble_eq_true rfl) ?_
  intro p e s m below meth c hx hb hr hml hts hown hlocks hB ls hl
  obtain ⟨hsz, hP, hK, hD0⟩ := hB
  subst hsz
  have hD := hD0.self (sz := s.heap.size)
  generalize hAe : va_A [(om, .inr (5, [.int (nI cd), .int (nI ns), .ref apx, .ref apy, .ref act, .int (nI nb), .ref asd, .ref amv, .ref asl, .ref apl, .ref asw, .int (nI nw), .ref aor, .int (nI nc), .ref aon, .ref atw, .long mx, .long my, .ref aup, .ref alw, .int (nI nm), .long up, .long lo, .long rx, .long ry])), (asl, .inl (cZ, 576, .inl (bF fsl))), (apl, .inl (cJ, 4, .inr (.inl fpl)))] s.heap.size = A at hD ⊢
  have hA : ∀ q : Nat, s.heap.size ≤ q → A q := fun q h => by rw [← hAe]; exact Or.inr h
  have hS : va_S A s.heap s.heap [] := va_S.rf
  have hl : lv_has ls 1 [(0, .ref om)] := hl
  have hi5 : ∀ w ∈ u_ws RX5 TX5 25, w ∈ wsX5_clear := by decide +kernel
  have f54 := hts (.fieldLink RX5 54 "SweptBoxesModel" "code" "I") (by decide +kernel)
  refine lv_aload_n hx hb dX5_clear_0 rfl (lv_at hl 0 rfl) ?_
  refine lv_iconst (v := (nI 0)) hx hb dX5_clear_1 (by decide) ?_
  refine va_put (D := (dC, dI)) (ci := 5) (v := .int (nI 0)) (ty := .int) (C := RX5) (T := TX5) (N := 25) hx hb hts hi5 tyX5 tyX5_ok nmX5 hown hK hP hD hS 0 rfl rfl 0 (by decide) f54 (fun _ h9 => h9) rfl (by decide +kernel) rfl rfl (Nat.le_of_ble_eq_true rfl) dX5_clear_2 (fun H locs hP hD hS => ?_)
  have hP : va_P (dC, dI) vwCl [(om, .inr (5, [.int (nI 0), .int (nI ns), .ref apx, .ref apy, .ref act, .int (nI nb), .ref asd, .ref amv, .ref asl, .ref apl, .ref asw, .int (nI nw), .ref aor, .int (nI nc), .ref aon, .ref atw, .long mx, .long my, .ref aup, .ref alw, .int (nI nm), .long up, .long lo, .long rx, .long ry])), (asl, .inl (cZ, 576, .inl (bF fsl))), (apl, .inl (cJ, 4, .inr (.inl fpl)))] H := hP
  have hD : va_D A [(om, .inr (5, [.int (nI 0), .int (nI ns), .ref apx, .ref apy, .ref act, .int (nI nb), .ref asd, .ref amv, .ref asl, .ref apl, .ref asw, .int (nI nw), .ref aor, .int (nI nc), .ref aon, .ref atw, .long mx, .long my, .ref aup, .ref alw, .int (nI nm), .long up, .long lo, .long rx, .long ry])), (asl, .inl (cZ, 576, .inl (bF fsl))), (apl, .inl (cJ, 4, .inr (.inl fpl)))] := hD
  refine lv_aload_n hx hb dX5_clear_5 rfl (lv_at hl 0 rfl) ?_
  refine kmVv (q0 := 0) (ci := 5) (As := []) (rest := []) (WC := [(om, .inr (5, [.int (nI 0), .int (nI ns), .ref apx, .ref apy, .ref act, .int (nI nb), .ref asd, .ref amv, .ref asl, .ref apl, .ref asw, .int (nI nw), .ref aor, .int (nI nc), .ref aon, .ref atw, .long mx, .long my, .ref aup, .ref alw, .int (nI nm), .long up, .long lo, .long rx, .long ry])), (asl, .inl (cZ, 576, .inl (bF fsl))), (apl, .inl (cJ, 4, .inr (.inl fpl)))]) (W2 := [(om, .inr (5, [.int (nI 0), .int (nI 0), .ref apx, .ref apy, .ref act, .int (nI 0), .ref asd, .ref amv, .ref asl, .ref apl, .ref asw, .int (nI 0), .ref aor, .int (nI nc), .ref aon, .ref atw, .long mx, .long my, .ref aup, .ref alw, .int (nI nm), .long up, .long lo, .long rx, .long ry])), (asl, .inl (cZ, 576, .inl (bF (zeroTo fsl 576)))), (apl, .inl (cJ, 4, .inr (.inl (plNew fpl))))]) (WR := []) (WN := [(om, .inr (5, [.int (nI 0), .int (nI 0), .ref apx, .ref apy, .ref act, .int (nI 0), .ref asd, .ref amv, .ref asl, .ref apl, .ref asw, .int (nI 0), .ref aor, .int (nI nc), .ref aon, .ref atw, .long mx, .long my, .ref aup, .ref alw, .int (nI nm), .long up, .long lo, .long rx, .long ry])), (asl, .inl (cZ, 576, .inl (bF (zeroTo fsl 576)))), (apl, .inl (cJ, 4, .inr (.inl (plNew fpl))))]) (tyC := [(cJ, .long), (cI, .int), (cZ, .boolean)]) (isC := [0, 1, 2]) (isR := []) (isN := [0, 1, 2]) (its := [0, 1, 2]) ⟨hx, hb, hml, hown, hts⟩ (tX5_reset l dC dI cJ cI cZ om 0 ns apx apy act nb asd amv asl apl asw nw aor nc aon atw aup alw nm mx my up lo rx ry fsl fpl) (cwV 0 hts gX5_clear_X5_reset rfl rfl rfl (by decide +kernel) ⟨Nat.le_of_ble_eq_true rfl, Nat.le_of_ble_eq_true rfl⟩) hP hD hA hS hK rfl (by decide) rfl (by decide) (by decide) rfl (by decide) rfl rfl rfl rfl rfl hl.1 (Nat.le_of_ble_eq_true rfl) dX5_clear_6 ⟨Nat.le_of_ble_eq_true rfl, Nat.le_of_ble_eq_true rfl⟩ (fun H locs hP hD hS => ?_)
  exact kEv hx hb hr hlocks hP hK hD hS dX5_clear_9

set_option maxHeartbeats 4000000 in
set_option maxRecDepth 100000 in
theorem tX5_shape_e (l : Launch) (dC : Nat → ClassId) (dI : Nat → Nat → Nat) (cJ cI cZ : ClassId) (om cd ns apx apy act nb asd amv asl apl asw nw aor nc aon atw aup alw nm : Nat) (mx my up lo rx ry : Int64) (ct : Nat → Nat)  (hs : ns = 16) : MMi l yX5_shape wsX5_shape { frames := 0, cells := 0, slots := 0, locals := 0 } [.ref om] (dC, dI) [(om, .inr (5, [.int (nI cd), .int (nI ns), .ref apx, .ref apy, .ref act, .int (nI nb), .ref asd, .ref amv, .ref asl, .ref apl, .ref asw, .int (nI nw), .ref aor, .int (nI nc), .ref aon, .ref atw, .long mx, .long my, .ref aup, .ref alw, .int (nI nm), .long up, .long lo, .long rx, .long ry])), (act, .inl (cI, 16, .inl (nF ct)))] [(om, .inr (5, [.int (nI 1), .int (nI ns), .ref apx, .ref apy, .ref act, .int (nI nb), .ref asd, .ref amv, .ref asl, .ref apl, .ref asw, .int (nI nw), .ref aor, .int (nI nc), .ref aon, .ref atw, .long mx, .long my, .ref aup, .ref alw, .int (nI nm), .long up, .long lo, .long rx, .long ry])), (act, .inl (cI, 16, .inl (nF ct)))] [(cJ, .long), (cI, .int), (cZ, .boolean)] (nI 0) := by
  intro sz
  refine kOf (cc := cX5_shape) (maxL := 1) (ret := (some .int)) (by decide) rfl (Nat.le_of_ble_eq_true rfl) ?_
  intro p e s m below meth c hx hb hr hml hts hown hlocks hB ls hl
  obtain ⟨hsz, hP, hK, hD0⟩ := hB
  subst hsz
  have hD := hD0.self (sz := s.heap.size)
  generalize hAe : va_A [(om, .inr (5, [.int (nI cd), .int (nI ns), .ref apx, .ref apy, .ref act, .int (nI nb), .ref asd, .ref amv, .ref asl, .ref apl, .ref asw, .int (nI nw), .ref aor, .int (nI nc), .ref aon, .ref atw, .long mx, .long my, .ref aup, .ref alw, .int (nI nm), .long up, .long lo, .long rx, .long ry])), (act, .inl (cI, 16, .inl (nF ct)))] s.heap.size = A at hD ⊢
  have hA : ∀ q : Nat, s.heap.size ≤ q → A q := fun q h => by rw [← hAe]; exact Or.inr h
  have hS : va_S A s.heap s.heap [] := va_S.rf
  have hl : lv_has ls 1 [(0, .ref om)] := hl
  have hi5 : ∀ w ∈ u_ws RX5 TX5 25, w ∈ wsX5_shape := by decide +kernel
  have f54 := hts (.fieldLink RX5 54 "SweptBoxesModel" "code" "I") (by decide +kernel)
  have f58 := hts (.fieldLink RX5 58 "SweptBoxesModel" "shapes" "I") (by decide +kernel)
  refine lv_aload_n hx hb dX5_shape_0 rfl (lv_at hl 0 rfl) ?_
  refine lv_aload_n hx hb dX5_shape_1 rfl (lv_at hl 0 rfl) ?_
  refine va_get (D := (dC, dI)) (ci := 5) (v := .int (nI ns)) (C := RX5) (T := TX5) (N := 25) hx hb hts hi5 hown hK hP 0 rfl rfl 1 (by decide) f58 (fun _ h9 => h9) rfl dX5_shape_2 ?_
  refine lv_bipush (v := (nI 16)) hx hb dX5_shape_5 (by decide) ?_
  refine lv_icmp_ne (tgt := 14) hx hb dX5_shape_7 (by decide) (fun c7 => ?_) (fun c7 => ?_)
  · rw [nI_eq (by omega) (by omega)] at c7
    exfalso; omega
  · rw [nI_eq (by omega) (by omega)] at c7
    refine lv_iconst (v := (nI 1)) hx hb dX5_shape_10 (by decide) ?_
    refine lv_goto (tgt := 15) hx hb dX5_shape_11 (by decide) ?_
    refine va_put (D := (dC, dI)) (ci := 5) (v := .int (nI 1)) (ty := .int) (C := RX5) (T := TX5) (N := 25) hx hb hts hi5 tyX5 tyX5_ok nmX5 hown hK hP hD hS 0 rfl rfl 0 (by decide) f54 (fun _ h9 => h9) rfl (by decide +kernel) rfl rfl (Nat.le_of_ble_eq_true rfl) dX5_shape_15 (fun H locs hP hD hS => ?_)
    have hP : va_P (dC, dI) vwCl [(om, .inr (5, [.int (nI 1), .int (nI ns), .ref apx, .ref apy, .ref act, .int (nI nb), .ref asd, .ref amv, .ref asl, .ref apl, .ref asw, .int (nI nw), .ref aor, .int (nI nc), .ref aon, .ref atw, .long mx, .long my, .ref aup, .ref alw, .int (nI nm), .long up, .long lo, .long rx, .long ry])), (act, .inl (cI, 16, .inl (nF ct)))] H := hP
    have hD : va_D A [(om, .inr (5, [.int (nI 1), .int (nI ns), .ref apx, .ref apy, .ref act, .int (nI nb), .ref asd, .ref amv, .ref asl, .ref apl, .ref asw, .int (nI nw), .ref aor, .int (nI nc), .ref aon, .ref atw, .long mx, .long my, .ref aup, .ref alw, .int (nI nm), .long up, .long lo, .long rx, .long ry])), (act, .inl (cI, 16, .inl (nF ct)))] := hD
    refine lv_aload_n hx hb dX5_shape_18 rfl (lv_at hl 0 rfl) ?_
    refine va_get (D := (dC, dI)) (ci := 5) (v := .int (nI 1)) (C := RX5) (T := TX5) (N := 25) hx hb hts hi5 hown hK hP 0 rfl rfl 0 (by decide) f54 (fun _ h9 => h9) rfl dX5_shape_19 ?_
    refine lv_if_le (tgt := 27) hx hb dX5_shape_22 (by decide) (fun c22 => ?_) (fun c22 => ?_)
    · skip
      exact absurd c22 (by decide)
    · rw [← nI_0, nI_leI (by omega) (by omega), Nat.not_le] at c22
      refine lv_iconst (v := (nI 0)) hx hb dX5_shape_25 (by decide) ?_
      exact kEi hx hb hr hlocks hP hK hD hS dX5_shape_26 rfl

set_option maxHeartbeats 4000000 in
set_option maxRecDepth 100000 in
theorem tX5_shape_o (l : Launch) (dC : Nat → ClassId) (dI : Nat → Nat → Nat) (cJ cI cZ : ClassId) (om cd ns apx apy act nb asd amv asl apl asw nw aor nc aon atw aup alw nm : Nat) (mx my up lo rx ry : Int64) (ct : Nat → Nat)  (hs : ns < 16) : MMi l yX5_shape wsX5_shape { frames := 0, cells := 0, slots := 0, locals := 0 } [.ref om] (dC, dI) [(om, .inr (5, [.int (nI cd), .int (nI ns), .ref apx, .ref apy, .ref act, .int (nI nb), .ref asd, .ref amv, .ref asl, .ref apl, .ref asw, .int (nI nw), .ref aor, .int (nI nc), .ref aon, .ref atw, .long mx, .long my, .ref aup, .ref alw, .int (nI nm), .long up, .long lo, .long rx, .long ry])), (act, .inl (cI, 16, .inl (nF ct)))] [(om, .inr (5, [.int (nI 0), .int (nI (ns + 1)), .ref apx, .ref apy, .ref act, .int (nI nb), .ref asd, .ref amv, .ref asl, .ref apl, .ref asw, .int (nI nw), .ref aor, .int (nI nc), .ref aon, .ref atw, .long mx, .long my, .ref aup, .ref alw, .int (nI nm), .long up, .long lo, .long rx, .long ry])), (act, .inl (cI, 16, .inl (nF (va_up ct ns 0))))] [(cJ, .long), (cI, .int), (cZ, .boolean)] (nI ns) := by
  intro sz
  refine kOf (cc := cX5_shape) (maxL := 1) (ret := (some .int)) (by decide) rfl (Nat.le_of_ble_eq_true rfl) ?_
  intro p e s m below meth c hx hb hr hml hts hown hlocks hB ls hl
  obtain ⟨hsz, hP, hK, hD0⟩ := hB
  subst hsz
  have hD := hD0.self (sz := s.heap.size)
  generalize hAe : va_A [(om, .inr (5, [.int (nI cd), .int (nI ns), .ref apx, .ref apy, .ref act, .int (nI nb), .ref asd, .ref amv, .ref asl, .ref apl, .ref asw, .int (nI nw), .ref aor, .int (nI nc), .ref aon, .ref atw, .long mx, .long my, .ref aup, .ref alw, .int (nI nm), .long up, .long lo, .long rx, .long ry])), (act, .inl (cI, 16, .inl (nF ct)))] s.heap.size = A at hD ⊢
  have hA : ∀ q : Nat, s.heap.size ≤ q → A q := fun q h => by rw [← hAe]; exact Or.inr h
  have hS : va_S A s.heap s.heap [] := va_S.rf
  have hl : lv_has ls 1 [(0, .ref om)] := hl
  have hi5 : ∀ w ∈ u_ws RX5 TX5 25, w ∈ wsX5_shape := by decide +kernel
  have f16 := hts (.fieldLink RX5 16 "SweptBoxesModel" "counts" "[I") (by decide +kernel)
  have f54 := hts (.fieldLink RX5 54 "SweptBoxesModel" "code" "I") (by decide +kernel)
  have f58 := hts (.fieldLink RX5 58 "SweptBoxesModel" "shapes" "I") (by decide +kernel)
  refine lv_aload_n hx hb dX5_shape_0 rfl (lv_at hl 0 rfl) ?_
  refine lv_aload_n hx hb dX5_shape_1 rfl (lv_at hl 0 rfl) ?_
  refine va_get (D := (dC, dI)) (ci := 5) (v := .int (nI ns)) (C := RX5) (T := TX5) (N := 25) hx hb hts hi5 hown hK hP 0 rfl rfl 1 (by decide) f58 (fun _ h9 => h9) rfl dX5_shape_2 ?_
  refine lv_bipush (v := (nI 16)) hx hb dX5_shape_5 (by decide) ?_
  refine lv_icmp_ne (tgt := 14) hx hb dX5_shape_7 (by decide) (fun c7 => ?_) (fun c7 => ?_)
  · rw [nI_eq (by omega) (by omega)] at c7
    refine lv_iconst (v := (nI 0)) hx hb dX5_shape_14 (by decide) ?_
    refine va_put (D := (dC, dI)) (ci := 5) (v := .int (nI 0)) (ty := .int) (C := RX5) (T := TX5) (N := 25) hx hb hts hi5 tyX5 tyX5_ok nmX5 hown hK hP hD hS 0 rfl rfl 0 (by decide) f54 (fun _ h9 => h9) rfl (by decide +kernel) rfl rfl (Nat.le_of_ble_eq_true rfl) dX5_shape_15 (fun H locs hP hD hS => ?_)
    have hP : va_P (dC, dI) vwCl [(om, .inr (5, [.int (nI 0), .int (nI ns), .ref apx, .ref apy, .ref act, .int (nI nb), .ref asd, .ref amv, .ref asl, .ref apl, .ref asw, .int (nI nw), .ref aor, .int (nI nc), .ref aon, .ref atw, .long mx, .long my, .ref aup, .ref alw, .int (nI nm), .long up, .long lo, .long rx, .long ry])), (act, .inl (cI, 16, .inl (nF ct)))] H := hP
    have hD : va_D A [(om, .inr (5, [.int (nI 0), .int (nI ns), .ref apx, .ref apy, .ref act, .int (nI nb), .ref asd, .ref amv, .ref asl, .ref apl, .ref asw, .int (nI nw), .ref aor, .int (nI nc), .ref aon, .ref atw, .long mx, .long my, .ref aup, .ref alw, .int (nI nm), .long up, .long lo, .long rx, .long ry])), (act, .inl (cI, 16, .inl (nF ct)))] := hD
    refine lv_aload_n hx hb dX5_shape_18 rfl (lv_at hl 0 rfl) ?_
    refine va_get (D := (dC, dI)) (ci := 5) (v := .int (nI 0)) (C := RX5) (T := TX5) (N := 25) hx hb hts hi5 hown hK hP 0 rfl rfl 0 (by decide) f54 (fun _ h9 => h9) rfl dX5_shape_19 ?_
    refine lv_if_le (tgt := 27) hx hb dX5_shape_22 (by decide) (fun c22 => ?_) (fun c22 => ?_)
    · rw [← nI_0, nI_leI (by omega) (by omega)] at c22
      refine lv_aload_n hx hb dX5_shape_27 rfl (lv_at hl 0 rfl) ?_
      refine va_get (D := (dC, dI)) (ci := 5) (v := .ref act) (C := RX5) (T := TX5) (N := 25) hx hb hts hi5 hown hK hP 0 rfl rfl 4 (by decide) f16 (fun _ h9 => h9) rfl dX5_shape_28 ?_
      refine lv_aload_n hx hb dX5_shape_31 rfl (lv_at hl 0 rfl) ?_
      refine va_get (D := (dC, dI)) (ci := 5) (v := .int (nI ns)) (C := RX5) (T := TX5) (N := 25) hx hb hts hi5 hown hK hP 0 rfl rfl 1 (by decide) f58 (fun _ h9 => h9) rfl dX5_shape_32 ?_
      refine lv_iconst (v := (nI 0)) hx hb dX5_shape_35 (by decide) ?_
      refine va_iast hx hb hK hP hD hS 1 1 rfl rfl (vp_in_nI (show ns < 16 by omega) (by omega)) dX5_shape_36 (fun H locs hP hD hS => ?_)
      rw [show (nI ns).toNatClampNeg = ns from nI_clamp (show ns < 2 ^ 31 by omega)] at hP hD
      rw [show upd (nF ct) ns (nI 0) = (nF (va_up ct ns 0)) from nF_upd _ _ _] at hP hD
      have hP : va_P (dC, dI) vwCl [(om, .inr (5, [.int (nI 0), .int (nI ns), .ref apx, .ref apy, .ref act, .int (nI nb), .ref asd, .ref amv, .ref asl, .ref apl, .ref asw, .int (nI nw), .ref aor, .int (nI nc), .ref aon, .ref atw, .long mx, .long my, .ref aup, .ref alw, .int (nI nm), .long up, .long lo, .long rx, .long ry])), (act, .inl (cI, 16, .inl (nF (va_up ct ns 0))))] H := hP
      have hD : va_D A [(om, .inr (5, [.int (nI 0), .int (nI ns), .ref apx, .ref apy, .ref act, .int (nI nb), .ref asd, .ref amv, .ref asl, .ref apl, .ref asw, .int (nI nw), .ref aor, .int (nI nc), .ref aon, .ref atw, .long mx, .long my, .ref aup, .ref alw, .int (nI nm), .long up, .long lo, .long rx, .long ry])), (act, .inl (cI, 16, .inl (nF (va_up ct ns 0))))] := hD
      refine lv_aload_n hx hb dX5_shape_37 rfl (lv_at hl 0 rfl) ?_
      refine lv_dup hx hb dX5_shape_38 rfl ?_
      refine va_get (D := (dC, dI)) (ci := 5) (v := .int (nI ns)) (C := RX5) (T := TX5) (N := 25) hx hb hts hi5 hown hK hP 0 rfl rfl 1 (by decide) f58 (fun _ h9 => h9) rfl dX5_shape_39 ?_
      refine lv_iconst (v := (nI 1)) hx hb dX5_shape_42 (by decide) ?_
      refine lv_iadd hx hb dX5_shape_43 ?_
      rw [show (nI ns) + (nI 1) = (nI (ns + 1)) from nI_add ns 1]
      refine va_put (D := (dC, dI)) (ci := 5) (v := .int (nI (ns + 1))) (ty := .int) (C := RX5) (T := TX5) (N := 25) hx hb hts hi5 tyX5 tyX5_ok nmX5 hown hK hP hD hS 0 rfl rfl 1 (by decide) f58 (fun _ h9 => h9) rfl (by decide +kernel) rfl rfl (Nat.le_of_ble_eq_true rfl) dX5_shape_44 (fun H locs hP hD hS => ?_)
      have hP : va_P (dC, dI) vwCl [(om, .inr (5, [.int (nI 0), .int (nI (ns + 1)), .ref apx, .ref apy, .ref act, .int (nI nb), .ref asd, .ref amv, .ref asl, .ref apl, .ref asw, .int (nI nw), .ref aor, .int (nI nc), .ref aon, .ref atw, .long mx, .long my, .ref aup, .ref alw, .int (nI nm), .long up, .long lo, .long rx, .long ry])), (act, .inl (cI, 16, .inl (nF (va_up ct ns 0))))] H := hP
      have hD : va_D A [(om, .inr (5, [.int (nI 0), .int (nI (ns + 1)), .ref apx, .ref apy, .ref act, .int (nI nb), .ref asd, .ref amv, .ref asl, .ref apl, .ref asw, .int (nI nw), .ref aor, .int (nI nc), .ref aon, .ref atw, .long mx, .long my, .ref aup, .ref alw, .int (nI nm), .long up, .long lo, .long rx, .long ry])), (act, .inl (cI, 16, .inl (nF (va_up ct ns 0))))] := hD
      refine lv_aload_n hx hb dX5_shape_47 rfl (lv_at hl 0 rfl) ?_
      refine va_get (D := (dC, dI)) (ci := 5) (v := .int (nI (ns + 1))) (C := RX5) (T := TX5) (N := 25) hx hb hts hi5 hown hK hP 0 rfl rfl 1 (by decide) f58 (fun _ h9 => h9) rfl dX5_shape_48 ?_
      refine lv_iconst (v := (nI 1)) hx hb dX5_shape_51 (by decide) ?_
      refine lv_isub hx hb dX5_shape_52 ?_
      rw [show (nI (ns + 1)) - (nI 1) = (nI (((ns + 1)) - 1)) from pk_sub (show 1 ≤ (ns + 1) by omega)]
      exact kEi hx hb hr hlocks hP hK hD hS dX5_shape_53 rfl
    · skip
      exact absurd c22 (by decide)
  · rw [nI_eq (by omega) (by omega)] at c7
    exfalso; omega

def mComI (o0 o1 t0 t1 by_ u l_ : Int64) : Prop := o0 * l_ + by_ * u < o1 * l_ + by_ * u ∧ o0 * l_ + by_ * u < t1 * l_ ∧ t0 * l_ < o1 * l_ + by_ * u ∧ t0 * l_ < t1 * l_
def mComE (o0 o1 t0 t1 by_ u l_ : Int64) : Prop := o0 * l_ + by_ * u ≤ o1 * l_ + by_ * u ∧ o0 * l_ + by_ * u ≤ t1 * l_ ∧ t0 * l_ ≤ o1 * l_ + by_ * u ∧ t0 * l_ ≤ t1 * l_
set_option maxHeartbeats 4000000 in
set_option maxRecDepth 100000 in
theorem tX5_isCommon_0t (l : Launch) (dC : Nat → ClassId) (dI : Nat → Nat → Nat) (cJ cI cZ : ClassId) (om cd ns apx apy act nb asd amv asl apl asw nw aor nc aon atw aup alw nm : Nat) (mx my up lo rx ry : Int64) (fon : Nat → Int64) (ftw : Nat → Int64) (u l_ : Int64)  : PMi l yX5_isCommon wsX5_isCommon { frames := 0, cells := 0, slots := 0, locals := 0 } [.ref om, .int (nI 0), .long u, .long l_, .int (bI true)] (dC, dI) [(om, .inr (5, [.int (nI cd), .int (nI ns), .ref apx, .ref apy, .ref act, .int (nI nb), .ref asd, .ref amv, .ref asl, .ref apl, .ref asw, .int (nI nw), .ref aor, .int (nI nc), .ref aon, .ref atw, .long mx, .long my, .ref aup, .ref alw, .int (nI nm), .long up, .long lo, .long rx, .long ry])), (aon, .inl (cJ, 4, .inr (.inl fon))), (atw, .inl (cJ, 4, .inr (.inl ftw)))] [(cJ, .long), (cI, .int), (cZ, .boolean)] (bI (pB (mComI (fon 0) (fon 2) (ftw 0) (ftw 2) mx u l_))) := by
  refine kOf (cc := cX5_isCommon) (maxL := 21) (ret := (some .boolean)) (by decide) rfl (Nat.le_of_ble_eq_true rfl) ?_
  intro p e s m below meth c hx hb hr hml hts hown hlocks hB ls hl
  obtain ⟨hP, hK⟩ := hB
  have hl : lv_has ls 21 [(0, .ref om), (1, .int (nI 0)), (2, .long u), (4, .long l_), (6, .int (bI true))] := hl
  have hi5 : ∀ w ∈ u_ws RX5 TX5 25, w ∈ wsX5_isCommon := by decide +kernel
  have f39 := hts (.fieldLink RX5 39 "SweptBoxesModel" "one" "[J") (by decide +kernel)
  have f42 := hts (.fieldLink RX5 42 "SweptBoxesModel" "two" "[J") (by decide +kernel)
  have f128 := hts (.fieldLink RX5 128 "SweptBoxesModel" "mx" "J") (by decide +kernel)
  refine lv_iload_n hx hb dX5_isCommon_0 rfl (lv_at hl 1 rfl) ?_
  refine lv_if_ne (tgt := 11) hx hb dX5_isCommon_1 (by decide) (fun c1 => ?_) (fun c1 => ?_)
  · skip
    exact absurd c1 (by decide)
  · rw [← nI_0, nI_eq (by omega) (by omega)] at c1
    refine lv_aload_n hx hb dX5_isCommon_4 rfl (lv_at hl 0 rfl) ?_
    refine va_get (D := (dC, dI)) (ci := 5) (v := .long mx) (C := RX5) (T := TX5) (N := 25) hx hb hts hi5 hown hK hP 0 rfl rfl 16 (by decide) f128 (fun _ h9 => h9) rfl dX5_isCommon_5 ?_
    refine lv_goto (tgt := 15) hx hb dX5_isCommon_8 (by decide) ?_
    refine lv_lstore (lv' := [(7, .long mx), (0, .ref om), (1, .int (nI 0)), (2, .long u), (4, .long l_), (6, .int (bI true))]) hx hb dX5_isCommon_15 hl (by decide) rfl (fun ls hl => ?_)
    refine lv_aload_n hx hb dX5_isCommon_17 rfl (lv_at hl 1 rfl) ?_
    refine va_get (D := (dC, dI)) (ci := 5) (v := .ref aon) (C := RX5) (T := TX5) (N := 25) hx hb hts hi5 hown hK hP 0 rfl rfl 14 (by decide) f39 (fun _ h9 => h9) rfl dX5_isCommon_18 ?_
    refine lv_iload_n hx hb dX5_isCommon_21 rfl (lv_at hl 2 rfl) ?_
    refine va_lald hx hb hK hP 1 0 rfl rfl (vp_in_nI (show 0 < 4 by omega) (by omega)) dX5_isCommon_22 ?_
    rw [show (nI 0).toNatClampNeg = 0 from nI_clamp (show 0 < 2 ^ 31 by omega)]
    refine lv_lload hx hb dX5_isCommon_23 (lv_at hl 4 rfl) ?_
    refine lv_lmul hx hb dX5_isCommon_25 ?_
    refine lv_lload hx hb dX5_isCommon_26 (lv_at hl 0 rfl) ?_
    refine lv_lload_n hx hb dX5_isCommon_28 rfl (lv_at hl 3 rfl) ?_
    refine lv_lmul hx hb dX5_isCommon_29 ?_
    refine lv_ladd hx hb dX5_isCommon_30 ?_
    refine lv_lstore (lv' := [(9, .long (((fon 0) * l_) + (mx * u))), (7, .long mx), (0, .ref om), (1, .int (nI 0)), (2, .long u), (4, .long l_), (6, .int (bI true))]) hx hb dX5_isCommon_31 hl (by decide) rfl (fun ls hl => ?_)
    refine lv_aload_n hx hb dX5_isCommon_33 rfl (lv_at hl 2 rfl) ?_
    refine va_get (D := (dC, dI)) (ci := 5) (v := .ref aon) (C := RX5) (T := TX5) (N := 25) hx hb hts hi5 hown hK hP 0 rfl rfl 14 (by decide) f39 (fun _ h9 => h9) rfl dX5_isCommon_34 ?_
    refine lv_iload_n hx hb dX5_isCommon_37 rfl (lv_at hl 3 rfl) ?_
    refine lv_iconst (v := (nI 2)) hx hb dX5_isCommon_38 (by decide) ?_
    refine lv_iadd hx hb dX5_isCommon_39 ?_
    rw [show (nI 0) + (nI 2) = (nI 2) from rfl]
    refine va_lald hx hb hK hP 1 0 rfl rfl (vp_in_nI (show 2 < 4 by omega) (by omega)) dX5_isCommon_40 ?_
    rw [show (nI 2).toNatClampNeg = 2 from nI_clamp (show 2 < 2 ^ 31 by omega)]
    refine lv_lload hx hb dX5_isCommon_41 (lv_at hl 5 rfl) ?_
    refine lv_lmul hx hb dX5_isCommon_43 ?_
    refine lv_lload hx hb dX5_isCommon_44 (lv_at hl 1 rfl) ?_
    refine lv_lload_n hx hb dX5_isCommon_46 rfl (lv_at hl 4 rfl) ?_
    refine lv_lmul hx hb dX5_isCommon_47 ?_
    refine lv_ladd hx hb dX5_isCommon_48 ?_
    refine lv_lstore (lv' := [(11, .long (((fon 2) * l_) + (mx * u))), (9, .long (((fon 0) * l_) + (mx * u))), (7, .long mx), (0, .ref om), (1, .int (nI 0)), (2, .long u), (4, .long l_), (6, .int (bI true))]) hx hb dX5_isCommon_49 hl (by decide) rfl (fun ls hl => ?_)
    refine lv_aload_n hx hb dX5_isCommon_51 rfl (lv_at hl 3 rfl) ?_
    refine va_get (D := (dC, dI)) (ci := 5) (v := .ref atw) (C := RX5) (T := TX5) (N := 25) hx hb hts hi5 hown hK hP 0 rfl rfl 15 (by decide) f42 (fun _ h9 => h9) rfl dX5_isCommon_52 ?_
    refine lv_iload_n hx hb dX5_isCommon_55 rfl (lv_at hl 4 rfl) ?_
    refine va_lald hx hb hK hP 2 0 rfl rfl (vp_in_nI (show 0 < 4 by omega) (by omega)) dX5_isCommon_56 ?_
    rw [show (nI 0).toNatClampNeg = 0 from nI_clamp (show 0 < 2 ^ 31 by omega)]
    refine lv_lload hx hb dX5_isCommon_57 (lv_at hl 6 rfl) ?_
    refine lv_lmul hx hb dX5_isCommon_59 ?_
    refine lv_lstore (lv' := [(13, .long ((ftw 0) * l_)), (11, .long (((fon 2) * l_) + (mx * u))), (9, .long (((fon 0) * l_) + (mx * u))), (7, .long mx), (0, .ref om), (1, .int (nI 0)), (2, .long u), (4, .long l_), (6, .int (bI true))]) hx hb dX5_isCommon_60 hl (by decide) rfl (fun ls hl => ?_)
    refine lv_aload_n hx hb dX5_isCommon_62 rfl (lv_at hl 4 rfl) ?_
    refine va_get (D := (dC, dI)) (ci := 5) (v := .ref atw) (C := RX5) (T := TX5) (N := 25) hx hb hts hi5 hown hK hP 0 rfl rfl 15 (by decide) f42 (fun _ h9 => h9) rfl dX5_isCommon_63 ?_
    refine lv_iload_n hx hb dX5_isCommon_66 rfl (lv_at hl 5 rfl) ?_
    refine lv_iconst (v := (nI 2)) hx hb dX5_isCommon_67 (by decide) ?_
    refine lv_iadd hx hb dX5_isCommon_68 ?_
    rw [show (nI 0) + (nI 2) = (nI 2) from rfl]
    refine va_lald hx hb hK hP 2 0 rfl rfl (vp_in_nI (show 2 < 4 by omega) (by omega)) dX5_isCommon_69 ?_
    rw [show (nI 2).toNatClampNeg = 2 from nI_clamp (show 2 < 2 ^ 31 by omega)]
    refine lv_lload hx hb dX5_isCommon_70 (lv_at hl 7 rfl) ?_
    refine lv_lmul hx hb dX5_isCommon_72 ?_
    refine lv_lstore (lv' := [(15, .long ((ftw 2) * l_)), (13, .long ((ftw 0) * l_)), (11, .long (((fon 2) * l_) + (mx * u))), (9, .long (((fon 0) * l_) + (mx * u))), (7, .long mx), (0, .ref om), (1, .int (nI 0)), (2, .long u), (4, .long l_), (6, .int (bI true))]) hx hb dX5_isCommon_73 hl (by decide) rfl (fun ls hl => ?_)
    refine lv_lload hx hb dX5_isCommon_75 (lv_at hl 3 rfl) ?_
    refine lv_lload hx hb dX5_isCommon_77 (lv_at hl 1 rfl) ?_
    refine W.lcmp hx hb dX5_isCommon_79 ?_
    refine lv_if_le (tgt := 88) hx hb dX5_isCommon_80 (by decide) (fun c80 => ?_) (fun c80 => ?_)
    · rw [lg_cmp_le] at c80
      refine lv_lload hx hb dX5_isCommon_88 (lv_at hl 1 rfl) ?_
      refine lv_lstore (lv' := [(17, .long ((ftw 0) * l_)), (15, .long ((ftw 2) * l_)), (13, .long ((ftw 0) * l_)), (11, .long (((fon 2) * l_) + (mx * u))), (9, .long (((fon 0) * l_) + (mx * u))), (7, .long mx), (0, .ref om), (1, .int (nI 0)), (2, .long u), (4, .long l_), (6, .int (bI true))]) hx hb dX5_isCommon_90 hl (by decide) rfl (fun ls hl => ?_)
      refine lv_lload hx hb dX5_isCommon_92 (lv_at hl 3 rfl) ?_
      refine lv_lload hx hb dX5_isCommon_94 (lv_at hl 1 rfl) ?_
      refine W.lcmp hx hb dX5_isCommon_96 ?_
      refine lv_if_ge (tgt := 105) hx hb dX5_isCommon_97 (by decide) (fun c97 => ?_) (fun c97 => ?_)
      · rw [lg_cmp_ge] at c97
        refine lv_lload hx hb dX5_isCommon_105 (lv_at hl 1 rfl) ?_
        refine lv_lstore (lv' := [(19, .long ((ftw 2) * l_)), (17, .long ((ftw 0) * l_)), (15, .long ((ftw 2) * l_)), (13, .long ((ftw 0) * l_)), (11, .long (((fon 2) * l_) + (mx * u))), (9, .long (((fon 0) * l_) + (mx * u))), (7, .long mx), (0, .ref om), (1, .int (nI 0)), (2, .long u), (4, .long l_), (6, .int (bI true))]) hx hb dX5_isCommon_107 hl (by decide) rfl (fun ls hl => ?_)
        refine lv_iload hx hb dX5_isCommon_109 (lv_at hl 11 rfl) ?_
        refine lv_if_eq (tgt := 146) hx hb dX5_isCommon_111 (by decide) (fun c111 => ?_) (fun c111 => ?_)
        · skip
          exact absurd c111 (by decide)
        · replace c111 := bI_n c111
          refine lv_lload hx hb dX5_isCommon_114 (lv_at hl 1 rfl) ?_
          refine lv_lload hx hb dX5_isCommon_116 (lv_at hl 0 rfl) ?_
          refine W.lcmp hx hb dX5_isCommon_118 ?_
          refine lv_if_ge (tgt := 142) hx hb dX5_isCommon_119 (by decide) (fun c119 => ?_) (fun c119 => ?_)
          · rw [lg_cmp_ge] at c119
            refine lv_iconst (v := (nI 0)) hx hb dX5_isCommon_142 (by decide) ?_
            refine lv_goto (tgt := 159) hx hb dX5_isCommon_143 (by decide) ?_
            exact kRz hx hb hr hlocks dX5_isCommon_159 (kp0 (by unfold mComI; (try simp only [Int64.lt_iff_toInt_lt, Int64.le_iff_toInt_le, ← Int64.toInt_inj] at c1 c80 c97 c111 c119 ⊢); omega))
          · rw [lg_cmp_ge, Int64.not_le] at c119
            refine lv_lload hx hb dX5_isCommon_122 (lv_at hl 5 rfl) ?_
            refine lv_lload hx hb dX5_isCommon_124 (lv_at hl 4 rfl) ?_
            refine W.lcmp hx hb dX5_isCommon_126 ?_
            refine lv_if_ge (tgt := 142) hx hb dX5_isCommon_127 (by decide) (fun c127 => ?_) (fun c127 => ?_)
            · rw [lg_cmp_ge] at c127
              refine lv_iconst (v := (nI 0)) hx hb dX5_isCommon_142 (by decide) ?_
              refine lv_goto (tgt := 159) hx hb dX5_isCommon_143 (by decide) ?_
              exact kRz hx hb hr hlocks dX5_isCommon_159 (kp0 (by unfold mComI; (try simp only [Int64.lt_iff_toInt_lt, Int64.le_iff_toInt_le, ← Int64.toInt_inj] at c1 c80 c97 c111 c119 c127 ⊢); omega))
            · rw [lg_cmp_ge, Int64.not_le] at c127
              refine lv_lload hx hb dX5_isCommon_130 (lv_at hl 3 rfl) ?_
              refine lv_lload hx hb dX5_isCommon_132 (lv_at hl 2 rfl) ?_
              refine W.lcmp hx hb dX5_isCommon_134 ?_
              refine lv_if_ge (tgt := 142) hx hb dX5_isCommon_135 (by decide) (fun c135 => ?_) (fun c135 => ?_)
              · rw [lg_cmp_ge] at c135
                refine lv_iconst (v := (nI 0)) hx hb dX5_isCommon_142 (by decide) ?_
                refine lv_goto (tgt := 159) hx hb dX5_isCommon_143 (by decide) ?_
                exact kRz hx hb hr hlocks dX5_isCommon_159 (kp0 (by unfold mComI; (try simp only [Int64.lt_iff_toInt_lt, Int64.le_iff_toInt_le, ← Int64.toInt_inj] at c1 c80 c97 c111 c119 c127 c135 ⊢); omega))
              · rw [lg_cmp_ge, Int64.not_le] at c135
                refine lv_iconst (v := (nI 1)) hx hb dX5_isCommon_138 (by decide) ?_
                refine lv_goto (tgt := 159) hx hb dX5_isCommon_139 (by decide) ?_
                exact kRz hx hb hr hlocks dX5_isCommon_159 (kp1 (by unfold mComI; (try simp only [Int64.lt_iff_toInt_lt, Int64.le_iff_toInt_le, ← Int64.toInt_inj] at c1 c80 c97 c111 c119 c127 c135 ⊢); omega))
      · rw [lg_cmp_ge, Int64.not_le] at c97
        refine lv_lload hx hb dX5_isCommon_100 (lv_at hl 3 rfl) ?_
        refine lv_goto (tgt := 107) hx hb dX5_isCommon_102 (by decide) ?_
        refine lv_lstore (lv' := [(19, .long (((fon 2) * l_) + (mx * u))), (17, .long ((ftw 0) * l_)), (15, .long ((ftw 2) * l_)), (13, .long ((ftw 0) * l_)), (11, .long (((fon 2) * l_) + (mx * u))), (9, .long (((fon 0) * l_) + (mx * u))), (7, .long mx), (0, .ref om), (1, .int (nI 0)), (2, .long u), (4, .long l_), (6, .int (bI true))]) hx hb dX5_isCommon_107 hl (by decide) rfl (fun ls hl => ?_)
        refine lv_iload hx hb dX5_isCommon_109 (lv_at hl 11 rfl) ?_
        refine lv_if_eq (tgt := 146) hx hb dX5_isCommon_111 (by decide) (fun c111 => ?_) (fun c111 => ?_)
        · skip
          exact absurd c111 (by decide)
        · replace c111 := bI_n c111
          refine lv_lload hx hb dX5_isCommon_114 (lv_at hl 1 rfl) ?_
          refine lv_lload hx hb dX5_isCommon_116 (lv_at hl 0 rfl) ?_
          refine W.lcmp hx hb dX5_isCommon_118 ?_
          refine lv_if_ge (tgt := 142) hx hb dX5_isCommon_119 (by decide) (fun c119 => ?_) (fun c119 => ?_)
          · rw [lg_cmp_ge] at c119
            refine lv_iconst (v := (nI 0)) hx hb dX5_isCommon_142 (by decide) ?_
            refine lv_goto (tgt := 159) hx hb dX5_isCommon_143 (by decide) ?_
            exact kRz hx hb hr hlocks dX5_isCommon_159 (kp0 (by unfold mComI; (try simp only [Int64.lt_iff_toInt_lt, Int64.le_iff_toInt_le, ← Int64.toInt_inj] at c1 c80 c97 c111 c119 ⊢); omega))
          · rw [lg_cmp_ge, Int64.not_le] at c119
            refine lv_lload hx hb dX5_isCommon_122 (lv_at hl 5 rfl) ?_
            refine lv_lload hx hb dX5_isCommon_124 (lv_at hl 4 rfl) ?_
            refine W.lcmp hx hb dX5_isCommon_126 ?_
            refine lv_if_ge (tgt := 142) hx hb dX5_isCommon_127 (by decide) (fun c127 => ?_) (fun c127 => ?_)
            · rw [lg_cmp_ge] at c127
              refine lv_iconst (v := (nI 0)) hx hb dX5_isCommon_142 (by decide) ?_
              refine lv_goto (tgt := 159) hx hb dX5_isCommon_143 (by decide) ?_
              exact kRz hx hb hr hlocks dX5_isCommon_159 (kp0 (by unfold mComI; (try simp only [Int64.lt_iff_toInt_lt, Int64.le_iff_toInt_le, ← Int64.toInt_inj] at c1 c80 c97 c111 c119 c127 ⊢); omega))
            · rw [lg_cmp_ge, Int64.not_le] at c127
              refine lv_lload hx hb dX5_isCommon_130 (lv_at hl 3 rfl) ?_
              refine lv_lload hx hb dX5_isCommon_132 (lv_at hl 2 rfl) ?_
              refine W.lcmp hx hb dX5_isCommon_134 ?_
              refine lv_if_ge (tgt := 142) hx hb dX5_isCommon_135 (by decide) (fun c135 => ?_) (fun c135 => ?_)
              · rw [lg_cmp_ge] at c135
                refine lv_iconst (v := (nI 0)) hx hb dX5_isCommon_142 (by decide) ?_
                refine lv_goto (tgt := 159) hx hb dX5_isCommon_143 (by decide) ?_
                exact kRz hx hb hr hlocks dX5_isCommon_159 (kp0 (by unfold mComI; (try simp only [Int64.lt_iff_toInt_lt, Int64.le_iff_toInt_le, ← Int64.toInt_inj] at c1 c80 c97 c111 c119 c127 c135 ⊢); omega))
              · rw [lg_cmp_ge, Int64.not_le] at c135
                refine lv_iconst (v := (nI 1)) hx hb dX5_isCommon_138 (by decide) ?_
                refine lv_goto (tgt := 159) hx hb dX5_isCommon_139 (by decide) ?_
                exact kRz hx hb hr hlocks dX5_isCommon_159 (kp1 (by unfold mComI; (try simp only [Int64.lt_iff_toInt_lt, Int64.le_iff_toInt_le, ← Int64.toInt_inj] at c1 c80 c97 c111 c119 c127 c135 ⊢); omega))
    · rw [lg_cmp_le, Int64.not_le] at c80
      refine lv_lload hx hb dX5_isCommon_83 (lv_at hl 3 rfl) ?_
      refine lv_goto (tgt := 90) hx hb dX5_isCommon_85 (by decide) ?_
      refine lv_lstore (lv' := [(17, .long (((fon 0) * l_) + (mx * u))), (15, .long ((ftw 2) * l_)), (13, .long ((ftw 0) * l_)), (11, .long (((fon 2) * l_) + (mx * u))), (9, .long (((fon 0) * l_) + (mx * u))), (7, .long mx), (0, .ref om), (1, .int (nI 0)), (2, .long u), (4, .long l_), (6, .int (bI true))]) hx hb dX5_isCommon_90 hl (by decide) rfl (fun ls hl => ?_)
      refine lv_lload hx hb dX5_isCommon_92 (lv_at hl 3 rfl) ?_
      refine lv_lload hx hb dX5_isCommon_94 (lv_at hl 1 rfl) ?_
      refine W.lcmp hx hb dX5_isCommon_96 ?_
      refine lv_if_ge (tgt := 105) hx hb dX5_isCommon_97 (by decide) (fun c97 => ?_) (fun c97 => ?_)
      · rw [lg_cmp_ge] at c97
        refine lv_lload hx hb dX5_isCommon_105 (lv_at hl 1 rfl) ?_
        refine lv_lstore (lv' := [(19, .long ((ftw 2) * l_)), (17, .long (((fon 0) * l_) + (mx * u))), (15, .long ((ftw 2) * l_)), (13, .long ((ftw 0) * l_)), (11, .long (((fon 2) * l_) + (mx * u))), (9, .long (((fon 0) * l_) + (mx * u))), (7, .long mx), (0, .ref om), (1, .int (nI 0)), (2, .long u), (4, .long l_), (6, .int (bI true))]) hx hb dX5_isCommon_107 hl (by decide) rfl (fun ls hl => ?_)
        refine lv_iload hx hb dX5_isCommon_109 (lv_at hl 11 rfl) ?_
        refine lv_if_eq (tgt := 146) hx hb dX5_isCommon_111 (by decide) (fun c111 => ?_) (fun c111 => ?_)
        · skip
          exact absurd c111 (by decide)
        · replace c111 := bI_n c111
          refine lv_lload hx hb dX5_isCommon_114 (lv_at hl 1 rfl) ?_
          refine lv_lload hx hb dX5_isCommon_116 (lv_at hl 0 rfl) ?_
          refine W.lcmp hx hb dX5_isCommon_118 ?_
          refine lv_if_ge (tgt := 142) hx hb dX5_isCommon_119 (by decide) (fun c119 => ?_) (fun c119 => ?_)
          · rw [lg_cmp_ge] at c119
            refine lv_iconst (v := (nI 0)) hx hb dX5_isCommon_142 (by decide) ?_
            refine lv_goto (tgt := 159) hx hb dX5_isCommon_143 (by decide) ?_
            exact kRz hx hb hr hlocks dX5_isCommon_159 (kp0 (by unfold mComI; (try simp only [Int64.lt_iff_toInt_lt, Int64.le_iff_toInt_le, ← Int64.toInt_inj] at c1 c80 c97 c111 c119 ⊢); omega))
          · rw [lg_cmp_ge, Int64.not_le] at c119
            refine lv_lload hx hb dX5_isCommon_122 (lv_at hl 5 rfl) ?_
            refine lv_lload hx hb dX5_isCommon_124 (lv_at hl 4 rfl) ?_
            refine W.lcmp hx hb dX5_isCommon_126 ?_
            refine lv_if_ge (tgt := 142) hx hb dX5_isCommon_127 (by decide) (fun c127 => ?_) (fun c127 => ?_)
            · rw [lg_cmp_ge] at c127
              refine lv_iconst (v := (nI 0)) hx hb dX5_isCommon_142 (by decide) ?_
              refine lv_goto (tgt := 159) hx hb dX5_isCommon_143 (by decide) ?_
              exact kRz hx hb hr hlocks dX5_isCommon_159 (kp0 (by unfold mComI; (try simp only [Int64.lt_iff_toInt_lt, Int64.le_iff_toInt_le, ← Int64.toInt_inj] at c1 c80 c97 c111 c119 c127 ⊢); omega))
            · rw [lg_cmp_ge, Int64.not_le] at c127
              refine lv_lload hx hb dX5_isCommon_130 (lv_at hl 3 rfl) ?_
              refine lv_lload hx hb dX5_isCommon_132 (lv_at hl 2 rfl) ?_
              refine W.lcmp hx hb dX5_isCommon_134 ?_
              refine lv_if_ge (tgt := 142) hx hb dX5_isCommon_135 (by decide) (fun c135 => ?_) (fun c135 => ?_)
              · rw [lg_cmp_ge] at c135
                refine lv_iconst (v := (nI 0)) hx hb dX5_isCommon_142 (by decide) ?_
                refine lv_goto (tgt := 159) hx hb dX5_isCommon_143 (by decide) ?_
                exact kRz hx hb hr hlocks dX5_isCommon_159 (kp0 (by unfold mComI; (try simp only [Int64.lt_iff_toInt_lt, Int64.le_iff_toInt_le, ← Int64.toInt_inj] at c1 c80 c97 c111 c119 c127 c135 ⊢); omega))
              · rw [lg_cmp_ge, Int64.not_le] at c135
                refine lv_iconst (v := (nI 1)) hx hb dX5_isCommon_138 (by decide) ?_
                refine lv_goto (tgt := 159) hx hb dX5_isCommon_139 (by decide) ?_
                exact kRz hx hb hr hlocks dX5_isCommon_159 (kp1 (by unfold mComI; (try simp only [Int64.lt_iff_toInt_lt, Int64.le_iff_toInt_le, ← Int64.toInt_inj] at c1 c80 c97 c111 c119 c127 c135 ⊢); omega))
      · rw [lg_cmp_ge, Int64.not_le] at c97
        refine lv_lload hx hb dX5_isCommon_100 (lv_at hl 3 rfl) ?_
        refine lv_goto (tgt := 107) hx hb dX5_isCommon_102 (by decide) ?_
        refine lv_lstore (lv' := [(19, .long (((fon 2) * l_) + (mx * u))), (17, .long (((fon 0) * l_) + (mx * u))), (15, .long ((ftw 2) * l_)), (13, .long ((ftw 0) * l_)), (11, .long (((fon 2) * l_) + (mx * u))), (9, .long (((fon 0) * l_) + (mx * u))), (7, .long mx), (0, .ref om), (1, .int (nI 0)), (2, .long u), (4, .long l_), (6, .int (bI true))]) hx hb dX5_isCommon_107 hl (by decide) rfl (fun ls hl => ?_)
        refine lv_iload hx hb dX5_isCommon_109 (lv_at hl 11 rfl) ?_
        refine lv_if_eq (tgt := 146) hx hb dX5_isCommon_111 (by decide) (fun c111 => ?_) (fun c111 => ?_)
        · skip
          exact absurd c111 (by decide)
        · replace c111 := bI_n c111
          refine lv_lload hx hb dX5_isCommon_114 (lv_at hl 1 rfl) ?_
          refine lv_lload hx hb dX5_isCommon_116 (lv_at hl 0 rfl) ?_
          refine W.lcmp hx hb dX5_isCommon_118 ?_
          refine lv_if_ge (tgt := 142) hx hb dX5_isCommon_119 (by decide) (fun c119 => ?_) (fun c119 => ?_)
          · rw [lg_cmp_ge] at c119
            refine lv_iconst (v := (nI 0)) hx hb dX5_isCommon_142 (by decide) ?_
            refine lv_goto (tgt := 159) hx hb dX5_isCommon_143 (by decide) ?_
            exact kRz hx hb hr hlocks dX5_isCommon_159 (kp0 (by unfold mComI; (try simp only [Int64.lt_iff_toInt_lt, Int64.le_iff_toInt_le, ← Int64.toInt_inj] at c1 c80 c97 c111 c119 ⊢); omega))
          · rw [lg_cmp_ge, Int64.not_le] at c119
            refine lv_lload hx hb dX5_isCommon_122 (lv_at hl 5 rfl) ?_
            refine lv_lload hx hb dX5_isCommon_124 (lv_at hl 4 rfl) ?_
            refine W.lcmp hx hb dX5_isCommon_126 ?_
            refine lv_if_ge (tgt := 142) hx hb dX5_isCommon_127 (by decide) (fun c127 => ?_) (fun c127 => ?_)
            · rw [lg_cmp_ge] at c127
              refine lv_iconst (v := (nI 0)) hx hb dX5_isCommon_142 (by decide) ?_
              refine lv_goto (tgt := 159) hx hb dX5_isCommon_143 (by decide) ?_
              exact kRz hx hb hr hlocks dX5_isCommon_159 (kp0 (by unfold mComI; (try simp only [Int64.lt_iff_toInt_lt, Int64.le_iff_toInt_le, ← Int64.toInt_inj] at c1 c80 c97 c111 c119 c127 ⊢); omega))
            · rw [lg_cmp_ge, Int64.not_le] at c127
              refine lv_lload hx hb dX5_isCommon_130 (lv_at hl 3 rfl) ?_
              refine lv_lload hx hb dX5_isCommon_132 (lv_at hl 2 rfl) ?_
              refine W.lcmp hx hb dX5_isCommon_134 ?_
              refine lv_if_ge (tgt := 142) hx hb dX5_isCommon_135 (by decide) (fun c135 => ?_) (fun c135 => ?_)
              · rw [lg_cmp_ge] at c135
                refine lv_iconst (v := (nI 0)) hx hb dX5_isCommon_142 (by decide) ?_
                refine lv_goto (tgt := 159) hx hb dX5_isCommon_143 (by decide) ?_
                exact kRz hx hb hr hlocks dX5_isCommon_159 (kp0 (by unfold mComI; (try simp only [Int64.lt_iff_toInt_lt, Int64.le_iff_toInt_le, ← Int64.toInt_inj] at c1 c80 c97 c111 c119 c127 c135 ⊢); omega))
              · rw [lg_cmp_ge, Int64.not_le] at c135
                refine lv_iconst (v := (nI 1)) hx hb dX5_isCommon_138 (by decide) ?_
                refine lv_goto (tgt := 159) hx hb dX5_isCommon_139 (by decide) ?_
                exact kRz hx hb hr hlocks dX5_isCommon_159 (kp1 (by unfold mComI; (try simp only [Int64.lt_iff_toInt_lt, Int64.le_iff_toInt_le, ← Int64.toInt_inj] at c1 c80 c97 c111 c119 c127 c135 ⊢); omega))

set_option maxHeartbeats 4000000 in
set_option maxRecDepth 100000 in
theorem tX5_isCommon_0f (l : Launch) (dC : Nat → ClassId) (dI : Nat → Nat → Nat) (cJ cI cZ : ClassId) (om cd ns apx apy act nb asd amv asl apl asw nw aor nc aon atw aup alw nm : Nat) (mx my up lo rx ry : Int64) (fon : Nat → Int64) (ftw : Nat → Int64) (u l_ : Int64)  : PMi l yX5_isCommon wsX5_isCommon { frames := 0, cells := 0, slots := 0, locals := 0 } [.ref om, .int (nI 0), .long u, .long l_, .int (bI false)] (dC, dI) [(om, .inr (5, [.int (nI cd), .int (nI ns), .ref apx, .ref apy, .ref act, .int (nI nb), .ref asd, .ref amv, .ref asl, .ref apl, .ref asw, .int (nI nw), .ref aor, .int (nI nc), .ref aon, .ref atw, .long mx, .long my, .ref aup, .ref alw, .int (nI nm), .long up, .long lo, .long rx, .long ry])), (aon, .inl (cJ, 4, .inr (.inl fon))), (atw, .inl (cJ, 4, .inr (.inl ftw)))] [(cJ, .long), (cI, .int), (cZ, .boolean)] (bI (pB (mComE (fon 0) (fon 2) (ftw 0) (ftw 2) mx u l_))) := by
  refine kOf (cc := cX5_isCommon) (maxL := 21) (ret := (some .boolean)) (by decide) rfl (Nat.le_of_ble_eq_true rfl) ?_
  intro p e s m below meth c hx hb hr hml hts hown hlocks hB ls hl
  obtain ⟨hP, hK⟩ := hB
  have hl : lv_has ls 21 [(0, .ref om), (1, .int (nI 0)), (2, .long u), (4, .long l_), (6, .int (bI false))] := hl
  have hi5 : ∀ w ∈ u_ws RX5 TX5 25, w ∈ wsX5_isCommon := by decide +kernel
  have f39 := hts (.fieldLink RX5 39 "SweptBoxesModel" "one" "[J") (by decide +kernel)
  have f42 := hts (.fieldLink RX5 42 "SweptBoxesModel" "two" "[J") (by decide +kernel)
  have f128 := hts (.fieldLink RX5 128 "SweptBoxesModel" "mx" "J") (by decide +kernel)
  refine lv_iload_n hx hb dX5_isCommon_0 rfl (lv_at hl 1 rfl) ?_
  refine lv_if_ne (tgt := 11) hx hb dX5_isCommon_1 (by decide) (fun c1 => ?_) (fun c1 => ?_)
  · skip
    exact absurd c1 (by decide)
  · rw [← nI_0, nI_eq (by omega) (by omega)] at c1
    refine lv_aload_n hx hb dX5_isCommon_4 rfl (lv_at hl 0 rfl) ?_
    refine va_get (D := (dC, dI)) (ci := 5) (v := .long mx) (C := RX5) (T := TX5) (N := 25) hx hb hts hi5 hown hK hP 0 rfl rfl 16 (by decide) f128 (fun _ h9 => h9) rfl dX5_isCommon_5 ?_
    refine lv_goto (tgt := 15) hx hb dX5_isCommon_8 (by decide) ?_
    refine lv_lstore (lv' := [(7, .long mx), (0, .ref om), (1, .int (nI 0)), (2, .long u), (4, .long l_), (6, .int (bI false))]) hx hb dX5_isCommon_15 hl (by decide) rfl (fun ls hl => ?_)
    refine lv_aload_n hx hb dX5_isCommon_17 rfl (lv_at hl 1 rfl) ?_
    refine va_get (D := (dC, dI)) (ci := 5) (v := .ref aon) (C := RX5) (T := TX5) (N := 25) hx hb hts hi5 hown hK hP 0 rfl rfl 14 (by decide) f39 (fun _ h9 => h9) rfl dX5_isCommon_18 ?_
    refine lv_iload_n hx hb dX5_isCommon_21 rfl (lv_at hl 2 rfl) ?_
    refine va_lald hx hb hK hP 1 0 rfl rfl (vp_in_nI (show 0 < 4 by omega) (by omega)) dX5_isCommon_22 ?_
    rw [show (nI 0).toNatClampNeg = 0 from nI_clamp (show 0 < 2 ^ 31 by omega)]
    refine lv_lload hx hb dX5_isCommon_23 (lv_at hl 4 rfl) ?_
    refine lv_lmul hx hb dX5_isCommon_25 ?_
    refine lv_lload hx hb dX5_isCommon_26 (lv_at hl 0 rfl) ?_
    refine lv_lload_n hx hb dX5_isCommon_28 rfl (lv_at hl 3 rfl) ?_
    refine lv_lmul hx hb dX5_isCommon_29 ?_
    refine lv_ladd hx hb dX5_isCommon_30 ?_
    refine lv_lstore (lv' := [(9, .long (((fon 0) * l_) + (mx * u))), (7, .long mx), (0, .ref om), (1, .int (nI 0)), (2, .long u), (4, .long l_), (6, .int (bI false))]) hx hb dX5_isCommon_31 hl (by decide) rfl (fun ls hl => ?_)
    refine lv_aload_n hx hb dX5_isCommon_33 rfl (lv_at hl 2 rfl) ?_
    refine va_get (D := (dC, dI)) (ci := 5) (v := .ref aon) (C := RX5) (T := TX5) (N := 25) hx hb hts hi5 hown hK hP 0 rfl rfl 14 (by decide) f39 (fun _ h9 => h9) rfl dX5_isCommon_34 ?_
    refine lv_iload_n hx hb dX5_isCommon_37 rfl (lv_at hl 3 rfl) ?_
    refine lv_iconst (v := (nI 2)) hx hb dX5_isCommon_38 (by decide) ?_
    refine lv_iadd hx hb dX5_isCommon_39 ?_
    rw [show (nI 0) + (nI 2) = (nI 2) from rfl]
    refine va_lald hx hb hK hP 1 0 rfl rfl (vp_in_nI (show 2 < 4 by omega) (by omega)) dX5_isCommon_40 ?_
    rw [show (nI 2).toNatClampNeg = 2 from nI_clamp (show 2 < 2 ^ 31 by omega)]
    refine lv_lload hx hb dX5_isCommon_41 (lv_at hl 5 rfl) ?_
    refine lv_lmul hx hb dX5_isCommon_43 ?_
    refine lv_lload hx hb dX5_isCommon_44 (lv_at hl 1 rfl) ?_
    refine lv_lload_n hx hb dX5_isCommon_46 rfl (lv_at hl 4 rfl) ?_
    refine lv_lmul hx hb dX5_isCommon_47 ?_
    refine lv_ladd hx hb dX5_isCommon_48 ?_
    refine lv_lstore (lv' := [(11, .long (((fon 2) * l_) + (mx * u))), (9, .long (((fon 0) * l_) + (mx * u))), (7, .long mx), (0, .ref om), (1, .int (nI 0)), (2, .long u), (4, .long l_), (6, .int (bI false))]) hx hb dX5_isCommon_49 hl (by decide) rfl (fun ls hl => ?_)
    refine lv_aload_n hx hb dX5_isCommon_51 rfl (lv_at hl 3 rfl) ?_
    refine va_get (D := (dC, dI)) (ci := 5) (v := .ref atw) (C := RX5) (T := TX5) (N := 25) hx hb hts hi5 hown hK hP 0 rfl rfl 15 (by decide) f42 (fun _ h9 => h9) rfl dX5_isCommon_52 ?_
    refine lv_iload_n hx hb dX5_isCommon_55 rfl (lv_at hl 4 rfl) ?_
    refine va_lald hx hb hK hP 2 0 rfl rfl (vp_in_nI (show 0 < 4 by omega) (by omega)) dX5_isCommon_56 ?_
    rw [show (nI 0).toNatClampNeg = 0 from nI_clamp (show 0 < 2 ^ 31 by omega)]
    refine lv_lload hx hb dX5_isCommon_57 (lv_at hl 6 rfl) ?_
    refine lv_lmul hx hb dX5_isCommon_59 ?_
    refine lv_lstore (lv' := [(13, .long ((ftw 0) * l_)), (11, .long (((fon 2) * l_) + (mx * u))), (9, .long (((fon 0) * l_) + (mx * u))), (7, .long mx), (0, .ref om), (1, .int (nI 0)), (2, .long u), (4, .long l_), (6, .int (bI false))]) hx hb dX5_isCommon_60 hl (by decide) rfl (fun ls hl => ?_)
    refine lv_aload_n hx hb dX5_isCommon_62 rfl (lv_at hl 4 rfl) ?_
    refine va_get (D := (dC, dI)) (ci := 5) (v := .ref atw) (C := RX5) (T := TX5) (N := 25) hx hb hts hi5 hown hK hP 0 rfl rfl 15 (by decide) f42 (fun _ h9 => h9) rfl dX5_isCommon_63 ?_
    refine lv_iload_n hx hb dX5_isCommon_66 rfl (lv_at hl 5 rfl) ?_
    refine lv_iconst (v := (nI 2)) hx hb dX5_isCommon_67 (by decide) ?_
    refine lv_iadd hx hb dX5_isCommon_68 ?_
    rw [show (nI 0) + (nI 2) = (nI 2) from rfl]
    refine va_lald hx hb hK hP 2 0 rfl rfl (vp_in_nI (show 2 < 4 by omega) (by omega)) dX5_isCommon_69 ?_
    rw [show (nI 2).toNatClampNeg = 2 from nI_clamp (show 2 < 2 ^ 31 by omega)]
    refine lv_lload hx hb dX5_isCommon_70 (lv_at hl 7 rfl) ?_
    refine lv_lmul hx hb dX5_isCommon_72 ?_
    refine lv_lstore (lv' := [(15, .long ((ftw 2) * l_)), (13, .long ((ftw 0) * l_)), (11, .long (((fon 2) * l_) + (mx * u))), (9, .long (((fon 0) * l_) + (mx * u))), (7, .long mx), (0, .ref om), (1, .int (nI 0)), (2, .long u), (4, .long l_), (6, .int (bI false))]) hx hb dX5_isCommon_73 hl (by decide) rfl (fun ls hl => ?_)
    refine lv_lload hx hb dX5_isCommon_75 (lv_at hl 3 rfl) ?_
    refine lv_lload hx hb dX5_isCommon_77 (lv_at hl 1 rfl) ?_
    refine W.lcmp hx hb dX5_isCommon_79 ?_
    refine lv_if_le (tgt := 88) hx hb dX5_isCommon_80 (by decide) (fun c80 => ?_) (fun c80 => ?_)
    · rw [lg_cmp_le] at c80
      refine lv_lload hx hb dX5_isCommon_88 (lv_at hl 1 rfl) ?_
      refine lv_lstore (lv' := [(17, .long ((ftw 0) * l_)), (15, .long ((ftw 2) * l_)), (13, .long ((ftw 0) * l_)), (11, .long (((fon 2) * l_) + (mx * u))), (9, .long (((fon 0) * l_) + (mx * u))), (7, .long mx), (0, .ref om), (1, .int (nI 0)), (2, .long u), (4, .long l_), (6, .int (bI false))]) hx hb dX5_isCommon_90 hl (by decide) rfl (fun ls hl => ?_)
      refine lv_lload hx hb dX5_isCommon_92 (lv_at hl 3 rfl) ?_
      refine lv_lload hx hb dX5_isCommon_94 (lv_at hl 1 rfl) ?_
      refine W.lcmp hx hb dX5_isCommon_96 ?_
      refine lv_if_ge (tgt := 105) hx hb dX5_isCommon_97 (by decide) (fun c97 => ?_) (fun c97 => ?_)
      · rw [lg_cmp_ge] at c97
        refine lv_lload hx hb dX5_isCommon_105 (lv_at hl 1 rfl) ?_
        refine lv_lstore (lv' := [(19, .long ((ftw 2) * l_)), (17, .long ((ftw 0) * l_)), (15, .long ((ftw 2) * l_)), (13, .long ((ftw 0) * l_)), (11, .long (((fon 2) * l_) + (mx * u))), (9, .long (((fon 0) * l_) + (mx * u))), (7, .long mx), (0, .ref om), (1, .int (nI 0)), (2, .long u), (4, .long l_), (6, .int (bI false))]) hx hb dX5_isCommon_107 hl (by decide) rfl (fun ls hl => ?_)
        refine lv_iload hx hb dX5_isCommon_109 (lv_at hl 11 rfl) ?_
        refine lv_if_eq (tgt := 146) hx hb dX5_isCommon_111 (by decide) (fun c111 => ?_) (fun c111 => ?_)
        · replace c111 := bI_0 c111
          refine lv_lload hx hb dX5_isCommon_146 (lv_at hl 1 rfl) ?_
          refine lv_lload hx hb dX5_isCommon_148 (lv_at hl 0 rfl) ?_
          refine W.lcmp hx hb dX5_isCommon_150 ?_
          refine lv_if_gt (tgt := 158) hx hb dX5_isCommon_151 (by decide) (fun c151 => ?_) (fun c151 => ?_)
          · rw [lg_cmp_gt] at c151
            refine lv_iconst (v := (nI 0)) hx hb dX5_isCommon_158 (by decide) ?_
            exact kRz hx hb hr hlocks dX5_isCommon_159 (kp0 (by unfold mComE; (try simp only [Int64.lt_iff_toInt_lt, Int64.le_iff_toInt_le, ← Int64.toInt_inj] at c1 c80 c97 c111 c151 ⊢); omega))
          · rw [lg_cmp_gt, Int64.not_lt] at c151
            refine lv_iconst (v := (nI 1)) hx hb dX5_isCommon_154 (by decide) ?_
            refine lv_goto (tgt := 159) hx hb dX5_isCommon_155 (by decide) ?_
            exact kRz hx hb hr hlocks dX5_isCommon_159 (kp1 (by unfold mComE; (try simp only [Int64.lt_iff_toInt_lt, Int64.le_iff_toInt_le, ← Int64.toInt_inj] at c1 c80 c97 c111 c151 ⊢); omega))
        · skip
          exact absurd c111 (by decide)
      · rw [lg_cmp_ge, Int64.not_le] at c97
        refine lv_lload hx hb dX5_isCommon_100 (lv_at hl 3 rfl) ?_
        refine lv_goto (tgt := 107) hx hb dX5_isCommon_102 (by decide) ?_
        refine lv_lstore (lv' := [(19, .long (((fon 2) * l_) + (mx * u))), (17, .long ((ftw 0) * l_)), (15, .long ((ftw 2) * l_)), (13, .long ((ftw 0) * l_)), (11, .long (((fon 2) * l_) + (mx * u))), (9, .long (((fon 0) * l_) + (mx * u))), (7, .long mx), (0, .ref om), (1, .int (nI 0)), (2, .long u), (4, .long l_), (6, .int (bI false))]) hx hb dX5_isCommon_107 hl (by decide) rfl (fun ls hl => ?_)
        refine lv_iload hx hb dX5_isCommon_109 (lv_at hl 11 rfl) ?_
        refine lv_if_eq (tgt := 146) hx hb dX5_isCommon_111 (by decide) (fun c111 => ?_) (fun c111 => ?_)
        · replace c111 := bI_0 c111
          refine lv_lload hx hb dX5_isCommon_146 (lv_at hl 1 rfl) ?_
          refine lv_lload hx hb dX5_isCommon_148 (lv_at hl 0 rfl) ?_
          refine W.lcmp hx hb dX5_isCommon_150 ?_
          refine lv_if_gt (tgt := 158) hx hb dX5_isCommon_151 (by decide) (fun c151 => ?_) (fun c151 => ?_)
          · rw [lg_cmp_gt] at c151
            refine lv_iconst (v := (nI 0)) hx hb dX5_isCommon_158 (by decide) ?_
            exact kRz hx hb hr hlocks dX5_isCommon_159 (kp0 (by unfold mComE; (try simp only [Int64.lt_iff_toInt_lt, Int64.le_iff_toInt_le, ← Int64.toInt_inj] at c1 c80 c97 c111 c151 ⊢); omega))
          · rw [lg_cmp_gt, Int64.not_lt] at c151
            refine lv_iconst (v := (nI 1)) hx hb dX5_isCommon_154 (by decide) ?_
            refine lv_goto (tgt := 159) hx hb dX5_isCommon_155 (by decide) ?_
            exact kRz hx hb hr hlocks dX5_isCommon_159 (kp1 (by unfold mComE; (try simp only [Int64.lt_iff_toInt_lt, Int64.le_iff_toInt_le, ← Int64.toInt_inj] at c1 c80 c97 c111 c151 ⊢); omega))
        · skip
          exact absurd c111 (by decide)
    · rw [lg_cmp_le, Int64.not_le] at c80
      refine lv_lload hx hb dX5_isCommon_83 (lv_at hl 3 rfl) ?_
      refine lv_goto (tgt := 90) hx hb dX5_isCommon_85 (by decide) ?_
      refine lv_lstore (lv' := [(17, .long (((fon 0) * l_) + (mx * u))), (15, .long ((ftw 2) * l_)), (13, .long ((ftw 0) * l_)), (11, .long (((fon 2) * l_) + (mx * u))), (9, .long (((fon 0) * l_) + (mx * u))), (7, .long mx), (0, .ref om), (1, .int (nI 0)), (2, .long u), (4, .long l_), (6, .int (bI false))]) hx hb dX5_isCommon_90 hl (by decide) rfl (fun ls hl => ?_)
      refine lv_lload hx hb dX5_isCommon_92 (lv_at hl 3 rfl) ?_
      refine lv_lload hx hb dX5_isCommon_94 (lv_at hl 1 rfl) ?_
      refine W.lcmp hx hb dX5_isCommon_96 ?_
      refine lv_if_ge (tgt := 105) hx hb dX5_isCommon_97 (by decide) (fun c97 => ?_) (fun c97 => ?_)
      · rw [lg_cmp_ge] at c97
        refine lv_lload hx hb dX5_isCommon_105 (lv_at hl 1 rfl) ?_
        refine lv_lstore (lv' := [(19, .long ((ftw 2) * l_)), (17, .long (((fon 0) * l_) + (mx * u))), (15, .long ((ftw 2) * l_)), (13, .long ((ftw 0) * l_)), (11, .long (((fon 2) * l_) + (mx * u))), (9, .long (((fon 0) * l_) + (mx * u))), (7, .long mx), (0, .ref om), (1, .int (nI 0)), (2, .long u), (4, .long l_), (6, .int (bI false))]) hx hb dX5_isCommon_107 hl (by decide) rfl (fun ls hl => ?_)
        refine lv_iload hx hb dX5_isCommon_109 (lv_at hl 11 rfl) ?_
        refine lv_if_eq (tgt := 146) hx hb dX5_isCommon_111 (by decide) (fun c111 => ?_) (fun c111 => ?_)
        · replace c111 := bI_0 c111
          refine lv_lload hx hb dX5_isCommon_146 (lv_at hl 1 rfl) ?_
          refine lv_lload hx hb dX5_isCommon_148 (lv_at hl 0 rfl) ?_
          refine W.lcmp hx hb dX5_isCommon_150 ?_
          refine lv_if_gt (tgt := 158) hx hb dX5_isCommon_151 (by decide) (fun c151 => ?_) (fun c151 => ?_)
          · rw [lg_cmp_gt] at c151
            refine lv_iconst (v := (nI 0)) hx hb dX5_isCommon_158 (by decide) ?_
            exact kRz hx hb hr hlocks dX5_isCommon_159 (kp0 (by unfold mComE; (try simp only [Int64.lt_iff_toInt_lt, Int64.le_iff_toInt_le, ← Int64.toInt_inj] at c1 c80 c97 c111 c151 ⊢); omega))
          · rw [lg_cmp_gt, Int64.not_lt] at c151
            refine lv_iconst (v := (nI 1)) hx hb dX5_isCommon_154 (by decide) ?_
            refine lv_goto (tgt := 159) hx hb dX5_isCommon_155 (by decide) ?_
            exact kRz hx hb hr hlocks dX5_isCommon_159 (kp1 (by unfold mComE; (try simp only [Int64.lt_iff_toInt_lt, Int64.le_iff_toInt_le, ← Int64.toInt_inj] at c1 c80 c97 c111 c151 ⊢); omega))
        · skip
          exact absurd c111 (by decide)
      · rw [lg_cmp_ge, Int64.not_le] at c97
        refine lv_lload hx hb dX5_isCommon_100 (lv_at hl 3 rfl) ?_
        refine lv_goto (tgt := 107) hx hb dX5_isCommon_102 (by decide) ?_
        refine lv_lstore (lv' := [(19, .long (((fon 2) * l_) + (mx * u))), (17, .long (((fon 0) * l_) + (mx * u))), (15, .long ((ftw 2) * l_)), (13, .long ((ftw 0) * l_)), (11, .long (((fon 2) * l_) + (mx * u))), (9, .long (((fon 0) * l_) + (mx * u))), (7, .long mx), (0, .ref om), (1, .int (nI 0)), (2, .long u), (4, .long l_), (6, .int (bI false))]) hx hb dX5_isCommon_107 hl (by decide) rfl (fun ls hl => ?_)
        refine lv_iload hx hb dX5_isCommon_109 (lv_at hl 11 rfl) ?_
        refine lv_if_eq (tgt := 146) hx hb dX5_isCommon_111 (by decide) (fun c111 => ?_) (fun c111 => ?_)
        · replace c111 := bI_0 c111
          refine lv_lload hx hb dX5_isCommon_146 (lv_at hl 1 rfl) ?_
          refine lv_lload hx hb dX5_isCommon_148 (lv_at hl 0 rfl) ?_
          refine W.lcmp hx hb dX5_isCommon_150 ?_
          refine lv_if_gt (tgt := 158) hx hb dX5_isCommon_151 (by decide) (fun c151 => ?_) (fun c151 => ?_)
          · rw [lg_cmp_gt] at c151
            refine lv_iconst (v := (nI 0)) hx hb dX5_isCommon_158 (by decide) ?_
            exact kRz hx hb hr hlocks dX5_isCommon_159 (kp0 (by unfold mComE; (try simp only [Int64.lt_iff_toInt_lt, Int64.le_iff_toInt_le, ← Int64.toInt_inj] at c1 c80 c97 c111 c151 ⊢); omega))
          · rw [lg_cmp_gt, Int64.not_lt] at c151
            refine lv_iconst (v := (nI 1)) hx hb dX5_isCommon_154 (by decide) ?_
            refine lv_goto (tgt := 159) hx hb dX5_isCommon_155 (by decide) ?_
            exact kRz hx hb hr hlocks dX5_isCommon_159 (kp1 (by unfold mComE; (try simp only [Int64.lt_iff_toInt_lt, Int64.le_iff_toInt_le, ← Int64.toInt_inj] at c1 c80 c97 c111 c151 ⊢); omega))
        · skip
          exact absurd c111 (by decide)

set_option maxHeartbeats 4000000 in
set_option maxRecDepth 100000 in
theorem tX5_isCommon_1t (l : Launch) (dC : Nat → ClassId) (dI : Nat → Nat → Nat) (cJ cI cZ : ClassId) (om cd ns apx apy act nb asd amv asl apl asw nw aor nc aon atw aup alw nm : Nat) (mx my up lo rx ry : Int64) (fon : Nat → Int64) (ftw : Nat → Int64) (u l_ : Int64)  : PMi l yX5_isCommon wsX5_isCommon { frames := 0, cells := 0, slots := 0, locals := 0 } [.ref om, .int (nI 1), .long u, .long l_, .int (bI true)] (dC, dI) [(om, .inr (5, [.int (nI cd), .int (nI ns), .ref apx, .ref apy, .ref act, .int (nI nb), .ref asd, .ref amv, .ref asl, .ref apl, .ref asw, .int (nI nw), .ref aor, .int (nI nc), .ref aon, .ref atw, .long mx, .long my, .ref aup, .ref alw, .int (nI nm), .long up, .long lo, .long rx, .long ry])), (aon, .inl (cJ, 4, .inr (.inl fon))), (atw, .inl (cJ, 4, .inr (.inl ftw)))] [(cJ, .long), (cI, .int), (cZ, .boolean)] (bI (pB (mComI (fon 1) (fon 3) (ftw 1) (ftw 3) my u l_))) := by
  refine kOf (cc := cX5_isCommon) (maxL := 21) (ret := (some .boolean)) (by decide) rfl (Nat.le_of_ble_eq_true rfl) ?_
  intro p e s m below meth c hx hb hr hml hts hown hlocks hB ls hl
  obtain ⟨hP, hK⟩ := hB
  have hl : lv_has ls 21 [(0, .ref om), (1, .int (nI 1)), (2, .long u), (4, .long l_), (6, .int (bI true))] := hl
  have hi5 : ∀ w ∈ u_ws RX5 TX5 25, w ∈ wsX5_isCommon := by decide +kernel
  have f39 := hts (.fieldLink RX5 39 "SweptBoxesModel" "one" "[J") (by decide +kernel)
  have f42 := hts (.fieldLink RX5 42 "SweptBoxesModel" "two" "[J") (by decide +kernel)
  have f132 := hts (.fieldLink RX5 132 "SweptBoxesModel" "my" "J") (by decide +kernel)
  refine lv_iload_n hx hb dX5_isCommon_0 rfl (lv_at hl 1 rfl) ?_
  refine lv_if_ne (tgt := 11) hx hb dX5_isCommon_1 (by decide) (fun c1 => ?_) (fun c1 => ?_)
  · rw [← nI_0, nI_eq (by omega) (by omega)] at c1
    refine lv_aload_n hx hb dX5_isCommon_11 rfl (lv_at hl 0 rfl) ?_
    refine va_get (D := (dC, dI)) (ci := 5) (v := .long my) (C := RX5) (T := TX5) (N := 25) hx hb hts hi5 hown hK hP 0 rfl rfl 17 (by decide) f132 (fun _ h9 => h9) rfl dX5_isCommon_12 ?_
    refine lv_lstore (lv' := [(7, .long my), (0, .ref om), (1, .int (nI 1)), (2, .long u), (4, .long l_), (6, .int (bI true))]) hx hb dX5_isCommon_15 hl (by decide) rfl (fun ls hl => ?_)
    refine lv_aload_n hx hb dX5_isCommon_17 rfl (lv_at hl 1 rfl) ?_
    refine va_get (D := (dC, dI)) (ci := 5) (v := .ref aon) (C := RX5) (T := TX5) (N := 25) hx hb hts hi5 hown hK hP 0 rfl rfl 14 (by decide) f39 (fun _ h9 => h9) rfl dX5_isCommon_18 ?_
    refine lv_iload_n hx hb dX5_isCommon_21 rfl (lv_at hl 2 rfl) ?_
    refine va_lald hx hb hK hP 1 0 rfl rfl (vp_in_nI (show 1 < 4 by omega) (by omega)) dX5_isCommon_22 ?_
    rw [show (nI 1).toNatClampNeg = 1 from nI_clamp (show 1 < 2 ^ 31 by omega)]
    refine lv_lload hx hb dX5_isCommon_23 (lv_at hl 4 rfl) ?_
    refine lv_lmul hx hb dX5_isCommon_25 ?_
    refine lv_lload hx hb dX5_isCommon_26 (lv_at hl 0 rfl) ?_
    refine lv_lload_n hx hb dX5_isCommon_28 rfl (lv_at hl 3 rfl) ?_
    refine lv_lmul hx hb dX5_isCommon_29 ?_
    refine lv_ladd hx hb dX5_isCommon_30 ?_
    refine lv_lstore (lv' := [(9, .long (((fon 1) * l_) + (my * u))), (7, .long my), (0, .ref om), (1, .int (nI 1)), (2, .long u), (4, .long l_), (6, .int (bI true))]) hx hb dX5_isCommon_31 hl (by decide) rfl (fun ls hl => ?_)
    refine lv_aload_n hx hb dX5_isCommon_33 rfl (lv_at hl 2 rfl) ?_
    refine va_get (D := (dC, dI)) (ci := 5) (v := .ref aon) (C := RX5) (T := TX5) (N := 25) hx hb hts hi5 hown hK hP 0 rfl rfl 14 (by decide) f39 (fun _ h9 => h9) rfl dX5_isCommon_34 ?_
    refine lv_iload_n hx hb dX5_isCommon_37 rfl (lv_at hl 3 rfl) ?_
    refine lv_iconst (v := (nI 2)) hx hb dX5_isCommon_38 (by decide) ?_
    refine lv_iadd hx hb dX5_isCommon_39 ?_
    rw [show (nI 1) + (nI 2) = (nI 3) from rfl]
    refine va_lald hx hb hK hP 1 0 rfl rfl (vp_in_nI (show 3 < 4 by omega) (by omega)) dX5_isCommon_40 ?_
    rw [show (nI 3).toNatClampNeg = 3 from nI_clamp (show 3 < 2 ^ 31 by omega)]
    refine lv_lload hx hb dX5_isCommon_41 (lv_at hl 5 rfl) ?_
    refine lv_lmul hx hb dX5_isCommon_43 ?_
    refine lv_lload hx hb dX5_isCommon_44 (lv_at hl 1 rfl) ?_
    refine lv_lload_n hx hb dX5_isCommon_46 rfl (lv_at hl 4 rfl) ?_
    refine lv_lmul hx hb dX5_isCommon_47 ?_
    refine lv_ladd hx hb dX5_isCommon_48 ?_
    refine lv_lstore (lv' := [(11, .long (((fon 3) * l_) + (my * u))), (9, .long (((fon 1) * l_) + (my * u))), (7, .long my), (0, .ref om), (1, .int (nI 1)), (2, .long u), (4, .long l_), (6, .int (bI true))]) hx hb dX5_isCommon_49 hl (by decide) rfl (fun ls hl => ?_)
    refine lv_aload_n hx hb dX5_isCommon_51 rfl (lv_at hl 3 rfl) ?_
    refine va_get (D := (dC, dI)) (ci := 5) (v := .ref atw) (C := RX5) (T := TX5) (N := 25) hx hb hts hi5 hown hK hP 0 rfl rfl 15 (by decide) f42 (fun _ h9 => h9) rfl dX5_isCommon_52 ?_
    refine lv_iload_n hx hb dX5_isCommon_55 rfl (lv_at hl 4 rfl) ?_
    refine va_lald hx hb hK hP 2 0 rfl rfl (vp_in_nI (show 1 < 4 by omega) (by omega)) dX5_isCommon_56 ?_
    rw [show (nI 1).toNatClampNeg = 1 from nI_clamp (show 1 < 2 ^ 31 by omega)]
    refine lv_lload hx hb dX5_isCommon_57 (lv_at hl 6 rfl) ?_
    refine lv_lmul hx hb dX5_isCommon_59 ?_
    refine lv_lstore (lv' := [(13, .long ((ftw 1) * l_)), (11, .long (((fon 3) * l_) + (my * u))), (9, .long (((fon 1) * l_) + (my * u))), (7, .long my), (0, .ref om), (1, .int (nI 1)), (2, .long u), (4, .long l_), (6, .int (bI true))]) hx hb dX5_isCommon_60 hl (by decide) rfl (fun ls hl => ?_)
    refine lv_aload_n hx hb dX5_isCommon_62 rfl (lv_at hl 4 rfl) ?_
    refine va_get (D := (dC, dI)) (ci := 5) (v := .ref atw) (C := RX5) (T := TX5) (N := 25) hx hb hts hi5 hown hK hP 0 rfl rfl 15 (by decide) f42 (fun _ h9 => h9) rfl dX5_isCommon_63 ?_
    refine lv_iload_n hx hb dX5_isCommon_66 rfl (lv_at hl 5 rfl) ?_
    refine lv_iconst (v := (nI 2)) hx hb dX5_isCommon_67 (by decide) ?_
    refine lv_iadd hx hb dX5_isCommon_68 ?_
    rw [show (nI 1) + (nI 2) = (nI 3) from rfl]
    refine va_lald hx hb hK hP 2 0 rfl rfl (vp_in_nI (show 3 < 4 by omega) (by omega)) dX5_isCommon_69 ?_
    rw [show (nI 3).toNatClampNeg = 3 from nI_clamp (show 3 < 2 ^ 31 by omega)]
    refine lv_lload hx hb dX5_isCommon_70 (lv_at hl 7 rfl) ?_
    refine lv_lmul hx hb dX5_isCommon_72 ?_
    refine lv_lstore (lv' := [(15, .long ((ftw 3) * l_)), (13, .long ((ftw 1) * l_)), (11, .long (((fon 3) * l_) + (my * u))), (9, .long (((fon 1) * l_) + (my * u))), (7, .long my), (0, .ref om), (1, .int (nI 1)), (2, .long u), (4, .long l_), (6, .int (bI true))]) hx hb dX5_isCommon_73 hl (by decide) rfl (fun ls hl => ?_)
    refine lv_lload hx hb dX5_isCommon_75 (lv_at hl 3 rfl) ?_
    refine lv_lload hx hb dX5_isCommon_77 (lv_at hl 1 rfl) ?_
    refine W.lcmp hx hb dX5_isCommon_79 ?_
    refine lv_if_le (tgt := 88) hx hb dX5_isCommon_80 (by decide) (fun c80 => ?_) (fun c80 => ?_)
    · rw [lg_cmp_le] at c80
      refine lv_lload hx hb dX5_isCommon_88 (lv_at hl 1 rfl) ?_
      refine lv_lstore (lv' := [(17, .long ((ftw 1) * l_)), (15, .long ((ftw 3) * l_)), (13, .long ((ftw 1) * l_)), (11, .long (((fon 3) * l_) + (my * u))), (9, .long (((fon 1) * l_) + (my * u))), (7, .long my), (0, .ref om), (1, .int (nI 1)), (2, .long u), (4, .long l_), (6, .int (bI true))]) hx hb dX5_isCommon_90 hl (by decide) rfl (fun ls hl => ?_)
      refine lv_lload hx hb dX5_isCommon_92 (lv_at hl 3 rfl) ?_
      refine lv_lload hx hb dX5_isCommon_94 (lv_at hl 1 rfl) ?_
      refine W.lcmp hx hb dX5_isCommon_96 ?_
      refine lv_if_ge (tgt := 105) hx hb dX5_isCommon_97 (by decide) (fun c97 => ?_) (fun c97 => ?_)
      · rw [lg_cmp_ge] at c97
        refine lv_lload hx hb dX5_isCommon_105 (lv_at hl 1 rfl) ?_
        refine lv_lstore (lv' := [(19, .long ((ftw 3) * l_)), (17, .long ((ftw 1) * l_)), (15, .long ((ftw 3) * l_)), (13, .long ((ftw 1) * l_)), (11, .long (((fon 3) * l_) + (my * u))), (9, .long (((fon 1) * l_) + (my * u))), (7, .long my), (0, .ref om), (1, .int (nI 1)), (2, .long u), (4, .long l_), (6, .int (bI true))]) hx hb dX5_isCommon_107 hl (by decide) rfl (fun ls hl => ?_)
        refine lv_iload hx hb dX5_isCommon_109 (lv_at hl 11 rfl) ?_
        refine lv_if_eq (tgt := 146) hx hb dX5_isCommon_111 (by decide) (fun c111 => ?_) (fun c111 => ?_)
        · skip
          exact absurd c111 (by decide)
        · replace c111 := bI_n c111
          refine lv_lload hx hb dX5_isCommon_114 (lv_at hl 1 rfl) ?_
          refine lv_lload hx hb dX5_isCommon_116 (lv_at hl 0 rfl) ?_
          refine W.lcmp hx hb dX5_isCommon_118 ?_
          refine lv_if_ge (tgt := 142) hx hb dX5_isCommon_119 (by decide) (fun c119 => ?_) (fun c119 => ?_)
          · rw [lg_cmp_ge] at c119
            refine lv_iconst (v := (nI 0)) hx hb dX5_isCommon_142 (by decide) ?_
            refine lv_goto (tgt := 159) hx hb dX5_isCommon_143 (by decide) ?_
            exact kRz hx hb hr hlocks dX5_isCommon_159 (kp0 (by unfold mComI; (try simp only [Int64.lt_iff_toInt_lt, Int64.le_iff_toInt_le, ← Int64.toInt_inj] at c1 c80 c97 c111 c119 ⊢); omega))
          · rw [lg_cmp_ge, Int64.not_le] at c119
            refine lv_lload hx hb dX5_isCommon_122 (lv_at hl 5 rfl) ?_
            refine lv_lload hx hb dX5_isCommon_124 (lv_at hl 4 rfl) ?_
            refine W.lcmp hx hb dX5_isCommon_126 ?_
            refine lv_if_ge (tgt := 142) hx hb dX5_isCommon_127 (by decide) (fun c127 => ?_) (fun c127 => ?_)
            · rw [lg_cmp_ge] at c127
              refine lv_iconst (v := (nI 0)) hx hb dX5_isCommon_142 (by decide) ?_
              refine lv_goto (tgt := 159) hx hb dX5_isCommon_143 (by decide) ?_
              exact kRz hx hb hr hlocks dX5_isCommon_159 (kp0 (by unfold mComI; (try simp only [Int64.lt_iff_toInt_lt, Int64.le_iff_toInt_le, ← Int64.toInt_inj] at c1 c80 c97 c111 c119 c127 ⊢); omega))
            · rw [lg_cmp_ge, Int64.not_le] at c127
              refine lv_lload hx hb dX5_isCommon_130 (lv_at hl 3 rfl) ?_
              refine lv_lload hx hb dX5_isCommon_132 (lv_at hl 2 rfl) ?_
              refine W.lcmp hx hb dX5_isCommon_134 ?_
              refine lv_if_ge (tgt := 142) hx hb dX5_isCommon_135 (by decide) (fun c135 => ?_) (fun c135 => ?_)
              · rw [lg_cmp_ge] at c135
                refine lv_iconst (v := (nI 0)) hx hb dX5_isCommon_142 (by decide) ?_
                refine lv_goto (tgt := 159) hx hb dX5_isCommon_143 (by decide) ?_
                exact kRz hx hb hr hlocks dX5_isCommon_159 (kp0 (by unfold mComI; (try simp only [Int64.lt_iff_toInt_lt, Int64.le_iff_toInt_le, ← Int64.toInt_inj] at c1 c80 c97 c111 c119 c127 c135 ⊢); omega))
              · rw [lg_cmp_ge, Int64.not_le] at c135
                refine lv_iconst (v := (nI 1)) hx hb dX5_isCommon_138 (by decide) ?_
                refine lv_goto (tgt := 159) hx hb dX5_isCommon_139 (by decide) ?_
                exact kRz hx hb hr hlocks dX5_isCommon_159 (kp1 (by unfold mComI; (try simp only [Int64.lt_iff_toInt_lt, Int64.le_iff_toInt_le, ← Int64.toInt_inj] at c1 c80 c97 c111 c119 c127 c135 ⊢); omega))
      · rw [lg_cmp_ge, Int64.not_le] at c97
        refine lv_lload hx hb dX5_isCommon_100 (lv_at hl 3 rfl) ?_
        refine lv_goto (tgt := 107) hx hb dX5_isCommon_102 (by decide) ?_
        refine lv_lstore (lv' := [(19, .long (((fon 3) * l_) + (my * u))), (17, .long ((ftw 1) * l_)), (15, .long ((ftw 3) * l_)), (13, .long ((ftw 1) * l_)), (11, .long (((fon 3) * l_) + (my * u))), (9, .long (((fon 1) * l_) + (my * u))), (7, .long my), (0, .ref om), (1, .int (nI 1)), (2, .long u), (4, .long l_), (6, .int (bI true))]) hx hb dX5_isCommon_107 hl (by decide) rfl (fun ls hl => ?_)
        refine lv_iload hx hb dX5_isCommon_109 (lv_at hl 11 rfl) ?_
        refine lv_if_eq (tgt := 146) hx hb dX5_isCommon_111 (by decide) (fun c111 => ?_) (fun c111 => ?_)
        · skip
          exact absurd c111 (by decide)
        · replace c111 := bI_n c111
          refine lv_lload hx hb dX5_isCommon_114 (lv_at hl 1 rfl) ?_
          refine lv_lload hx hb dX5_isCommon_116 (lv_at hl 0 rfl) ?_
          refine W.lcmp hx hb dX5_isCommon_118 ?_
          refine lv_if_ge (tgt := 142) hx hb dX5_isCommon_119 (by decide) (fun c119 => ?_) (fun c119 => ?_)
          · rw [lg_cmp_ge] at c119
            refine lv_iconst (v := (nI 0)) hx hb dX5_isCommon_142 (by decide) ?_
            refine lv_goto (tgt := 159) hx hb dX5_isCommon_143 (by decide) ?_
            exact kRz hx hb hr hlocks dX5_isCommon_159 (kp0 (by unfold mComI; (try simp only [Int64.lt_iff_toInt_lt, Int64.le_iff_toInt_le, ← Int64.toInt_inj] at c1 c80 c97 c111 c119 ⊢); omega))
          · rw [lg_cmp_ge, Int64.not_le] at c119
            refine lv_lload hx hb dX5_isCommon_122 (lv_at hl 5 rfl) ?_
            refine lv_lload hx hb dX5_isCommon_124 (lv_at hl 4 rfl) ?_
            refine W.lcmp hx hb dX5_isCommon_126 ?_
            refine lv_if_ge (tgt := 142) hx hb dX5_isCommon_127 (by decide) (fun c127 => ?_) (fun c127 => ?_)
            · rw [lg_cmp_ge] at c127
              refine lv_iconst (v := (nI 0)) hx hb dX5_isCommon_142 (by decide) ?_
              refine lv_goto (tgt := 159) hx hb dX5_isCommon_143 (by decide) ?_
              exact kRz hx hb hr hlocks dX5_isCommon_159 (kp0 (by unfold mComI; (try simp only [Int64.lt_iff_toInt_lt, Int64.le_iff_toInt_le, ← Int64.toInt_inj] at c1 c80 c97 c111 c119 c127 ⊢); omega))
            · rw [lg_cmp_ge, Int64.not_le] at c127
              refine lv_lload hx hb dX5_isCommon_130 (lv_at hl 3 rfl) ?_
              refine lv_lload hx hb dX5_isCommon_132 (lv_at hl 2 rfl) ?_
              refine W.lcmp hx hb dX5_isCommon_134 ?_
              refine lv_if_ge (tgt := 142) hx hb dX5_isCommon_135 (by decide) (fun c135 => ?_) (fun c135 => ?_)
              · rw [lg_cmp_ge] at c135
                refine lv_iconst (v := (nI 0)) hx hb dX5_isCommon_142 (by decide) ?_
                refine lv_goto (tgt := 159) hx hb dX5_isCommon_143 (by decide) ?_
                exact kRz hx hb hr hlocks dX5_isCommon_159 (kp0 (by unfold mComI; (try simp only [Int64.lt_iff_toInt_lt, Int64.le_iff_toInt_le, ← Int64.toInt_inj] at c1 c80 c97 c111 c119 c127 c135 ⊢); omega))
              · rw [lg_cmp_ge, Int64.not_le] at c135
                refine lv_iconst (v := (nI 1)) hx hb dX5_isCommon_138 (by decide) ?_
                refine lv_goto (tgt := 159) hx hb dX5_isCommon_139 (by decide) ?_
                exact kRz hx hb hr hlocks dX5_isCommon_159 (kp1 (by unfold mComI; (try simp only [Int64.lt_iff_toInt_lt, Int64.le_iff_toInt_le, ← Int64.toInt_inj] at c1 c80 c97 c111 c119 c127 c135 ⊢); omega))
    · rw [lg_cmp_le, Int64.not_le] at c80
      refine lv_lload hx hb dX5_isCommon_83 (lv_at hl 3 rfl) ?_
      refine lv_goto (tgt := 90) hx hb dX5_isCommon_85 (by decide) ?_
      refine lv_lstore (lv' := [(17, .long (((fon 1) * l_) + (my * u))), (15, .long ((ftw 3) * l_)), (13, .long ((ftw 1) * l_)), (11, .long (((fon 3) * l_) + (my * u))), (9, .long (((fon 1) * l_) + (my * u))), (7, .long my), (0, .ref om), (1, .int (nI 1)), (2, .long u), (4, .long l_), (6, .int (bI true))]) hx hb dX5_isCommon_90 hl (by decide) rfl (fun ls hl => ?_)
      refine lv_lload hx hb dX5_isCommon_92 (lv_at hl 3 rfl) ?_
      refine lv_lload hx hb dX5_isCommon_94 (lv_at hl 1 rfl) ?_
      refine W.lcmp hx hb dX5_isCommon_96 ?_
      refine lv_if_ge (tgt := 105) hx hb dX5_isCommon_97 (by decide) (fun c97 => ?_) (fun c97 => ?_)
      · rw [lg_cmp_ge] at c97
        refine lv_lload hx hb dX5_isCommon_105 (lv_at hl 1 rfl) ?_
        refine lv_lstore (lv' := [(19, .long ((ftw 3) * l_)), (17, .long (((fon 1) * l_) + (my * u))), (15, .long ((ftw 3) * l_)), (13, .long ((ftw 1) * l_)), (11, .long (((fon 3) * l_) + (my * u))), (9, .long (((fon 1) * l_) + (my * u))), (7, .long my), (0, .ref om), (1, .int (nI 1)), (2, .long u), (4, .long l_), (6, .int (bI true))]) hx hb dX5_isCommon_107 hl (by decide) rfl (fun ls hl => ?_)
        refine lv_iload hx hb dX5_isCommon_109 (lv_at hl 11 rfl) ?_
        refine lv_if_eq (tgt := 146) hx hb dX5_isCommon_111 (by decide) (fun c111 => ?_) (fun c111 => ?_)
        · skip
          exact absurd c111 (by decide)
        · replace c111 := bI_n c111
          refine lv_lload hx hb dX5_isCommon_114 (lv_at hl 1 rfl) ?_
          refine lv_lload hx hb dX5_isCommon_116 (lv_at hl 0 rfl) ?_
          refine W.lcmp hx hb dX5_isCommon_118 ?_
          refine lv_if_ge (tgt := 142) hx hb dX5_isCommon_119 (by decide) (fun c119 => ?_) (fun c119 => ?_)
          · rw [lg_cmp_ge] at c119
            refine lv_iconst (v := (nI 0)) hx hb dX5_isCommon_142 (by decide) ?_
            refine lv_goto (tgt := 159) hx hb dX5_isCommon_143 (by decide) ?_
            exact kRz hx hb hr hlocks dX5_isCommon_159 (kp0 (by unfold mComI; (try simp only [Int64.lt_iff_toInt_lt, Int64.le_iff_toInt_le, ← Int64.toInt_inj] at c1 c80 c97 c111 c119 ⊢); omega))
          · rw [lg_cmp_ge, Int64.not_le] at c119
            refine lv_lload hx hb dX5_isCommon_122 (lv_at hl 5 rfl) ?_
            refine lv_lload hx hb dX5_isCommon_124 (lv_at hl 4 rfl) ?_
            refine W.lcmp hx hb dX5_isCommon_126 ?_
            refine lv_if_ge (tgt := 142) hx hb dX5_isCommon_127 (by decide) (fun c127 => ?_) (fun c127 => ?_)
            · rw [lg_cmp_ge] at c127
              refine lv_iconst (v := (nI 0)) hx hb dX5_isCommon_142 (by decide) ?_
              refine lv_goto (tgt := 159) hx hb dX5_isCommon_143 (by decide) ?_
              exact kRz hx hb hr hlocks dX5_isCommon_159 (kp0 (by unfold mComI; (try simp only [Int64.lt_iff_toInt_lt, Int64.le_iff_toInt_le, ← Int64.toInt_inj] at c1 c80 c97 c111 c119 c127 ⊢); omega))
            · rw [lg_cmp_ge, Int64.not_le] at c127
              refine lv_lload hx hb dX5_isCommon_130 (lv_at hl 3 rfl) ?_
              refine lv_lload hx hb dX5_isCommon_132 (lv_at hl 2 rfl) ?_
              refine W.lcmp hx hb dX5_isCommon_134 ?_
              refine lv_if_ge (tgt := 142) hx hb dX5_isCommon_135 (by decide) (fun c135 => ?_) (fun c135 => ?_)
              · rw [lg_cmp_ge] at c135
                refine lv_iconst (v := (nI 0)) hx hb dX5_isCommon_142 (by decide) ?_
                refine lv_goto (tgt := 159) hx hb dX5_isCommon_143 (by decide) ?_
                exact kRz hx hb hr hlocks dX5_isCommon_159 (kp0 (by unfold mComI; (try simp only [Int64.lt_iff_toInt_lt, Int64.le_iff_toInt_le, ← Int64.toInt_inj] at c1 c80 c97 c111 c119 c127 c135 ⊢); omega))
              · rw [lg_cmp_ge, Int64.not_le] at c135
                refine lv_iconst (v := (nI 1)) hx hb dX5_isCommon_138 (by decide) ?_
                refine lv_goto (tgt := 159) hx hb dX5_isCommon_139 (by decide) ?_
                exact kRz hx hb hr hlocks dX5_isCommon_159 (kp1 (by unfold mComI; (try simp only [Int64.lt_iff_toInt_lt, Int64.le_iff_toInt_le, ← Int64.toInt_inj] at c1 c80 c97 c111 c119 c127 c135 ⊢); omega))
      · rw [lg_cmp_ge, Int64.not_le] at c97
        refine lv_lload hx hb dX5_isCommon_100 (lv_at hl 3 rfl) ?_
        refine lv_goto (tgt := 107) hx hb dX5_isCommon_102 (by decide) ?_
        refine lv_lstore (lv' := [(19, .long (((fon 3) * l_) + (my * u))), (17, .long (((fon 1) * l_) + (my * u))), (15, .long ((ftw 3) * l_)), (13, .long ((ftw 1) * l_)), (11, .long (((fon 3) * l_) + (my * u))), (9, .long (((fon 1) * l_) + (my * u))), (7, .long my), (0, .ref om), (1, .int (nI 1)), (2, .long u), (4, .long l_), (6, .int (bI true))]) hx hb dX5_isCommon_107 hl (by decide) rfl (fun ls hl => ?_)
        refine lv_iload hx hb dX5_isCommon_109 (lv_at hl 11 rfl) ?_
        refine lv_if_eq (tgt := 146) hx hb dX5_isCommon_111 (by decide) (fun c111 => ?_) (fun c111 => ?_)
        · skip
          exact absurd c111 (by decide)
        · replace c111 := bI_n c111
          refine lv_lload hx hb dX5_isCommon_114 (lv_at hl 1 rfl) ?_
          refine lv_lload hx hb dX5_isCommon_116 (lv_at hl 0 rfl) ?_
          refine W.lcmp hx hb dX5_isCommon_118 ?_
          refine lv_if_ge (tgt := 142) hx hb dX5_isCommon_119 (by decide) (fun c119 => ?_) (fun c119 => ?_)
          · rw [lg_cmp_ge] at c119
            refine lv_iconst (v := (nI 0)) hx hb dX5_isCommon_142 (by decide) ?_
            refine lv_goto (tgt := 159) hx hb dX5_isCommon_143 (by decide) ?_
            exact kRz hx hb hr hlocks dX5_isCommon_159 (kp0 (by unfold mComI; (try simp only [Int64.lt_iff_toInt_lt, Int64.le_iff_toInt_le, ← Int64.toInt_inj] at c1 c80 c97 c111 c119 ⊢); omega))
          · rw [lg_cmp_ge, Int64.not_le] at c119
            refine lv_lload hx hb dX5_isCommon_122 (lv_at hl 5 rfl) ?_
            refine lv_lload hx hb dX5_isCommon_124 (lv_at hl 4 rfl) ?_
            refine W.lcmp hx hb dX5_isCommon_126 ?_
            refine lv_if_ge (tgt := 142) hx hb dX5_isCommon_127 (by decide) (fun c127 => ?_) (fun c127 => ?_)
            · rw [lg_cmp_ge] at c127
              refine lv_iconst (v := (nI 0)) hx hb dX5_isCommon_142 (by decide) ?_
              refine lv_goto (tgt := 159) hx hb dX5_isCommon_143 (by decide) ?_
              exact kRz hx hb hr hlocks dX5_isCommon_159 (kp0 (by unfold mComI; (try simp only [Int64.lt_iff_toInt_lt, Int64.le_iff_toInt_le, ← Int64.toInt_inj] at c1 c80 c97 c111 c119 c127 ⊢); omega))
            · rw [lg_cmp_ge, Int64.not_le] at c127
              refine lv_lload hx hb dX5_isCommon_130 (lv_at hl 3 rfl) ?_
              refine lv_lload hx hb dX5_isCommon_132 (lv_at hl 2 rfl) ?_
              refine W.lcmp hx hb dX5_isCommon_134 ?_
              refine lv_if_ge (tgt := 142) hx hb dX5_isCommon_135 (by decide) (fun c135 => ?_) (fun c135 => ?_)
              · rw [lg_cmp_ge] at c135
                refine lv_iconst (v := (nI 0)) hx hb dX5_isCommon_142 (by decide) ?_
                refine lv_goto (tgt := 159) hx hb dX5_isCommon_143 (by decide) ?_
                exact kRz hx hb hr hlocks dX5_isCommon_159 (kp0 (by unfold mComI; (try simp only [Int64.lt_iff_toInt_lt, Int64.le_iff_toInt_le, ← Int64.toInt_inj] at c1 c80 c97 c111 c119 c127 c135 ⊢); omega))
              · rw [lg_cmp_ge, Int64.not_le] at c135
                refine lv_iconst (v := (nI 1)) hx hb dX5_isCommon_138 (by decide) ?_
                refine lv_goto (tgt := 159) hx hb dX5_isCommon_139 (by decide) ?_
                exact kRz hx hb hr hlocks dX5_isCommon_159 (kp1 (by unfold mComI; (try simp only [Int64.lt_iff_toInt_lt, Int64.le_iff_toInt_le, ← Int64.toInt_inj] at c1 c80 c97 c111 c119 c127 c135 ⊢); omega))
  · skip
    exact absurd c1 (by decide)

set_option maxHeartbeats 4000000 in
set_option maxRecDepth 100000 in
theorem tX5_isCommon_1f (l : Launch) (dC : Nat → ClassId) (dI : Nat → Nat → Nat) (cJ cI cZ : ClassId) (om cd ns apx apy act nb asd amv asl apl asw nw aor nc aon atw aup alw nm : Nat) (mx my up lo rx ry : Int64) (fon : Nat → Int64) (ftw : Nat → Int64) (u l_ : Int64)  : PMi l yX5_isCommon wsX5_isCommon { frames := 0, cells := 0, slots := 0, locals := 0 } [.ref om, .int (nI 1), .long u, .long l_, .int (bI false)] (dC, dI) [(om, .inr (5, [.int (nI cd), .int (nI ns), .ref apx, .ref apy, .ref act, .int (nI nb), .ref asd, .ref amv, .ref asl, .ref apl, .ref asw, .int (nI nw), .ref aor, .int (nI nc), .ref aon, .ref atw, .long mx, .long my, .ref aup, .ref alw, .int (nI nm), .long up, .long lo, .long rx, .long ry])), (aon, .inl (cJ, 4, .inr (.inl fon))), (atw, .inl (cJ, 4, .inr (.inl ftw)))] [(cJ, .long), (cI, .int), (cZ, .boolean)] (bI (pB (mComE (fon 1) (fon 3) (ftw 1) (ftw 3) my u l_))) := by
  refine kOf (cc := cX5_isCommon) (maxL := 21) (ret := (some .boolean)) (by decide) rfl (Nat.le_of_ble_eq_true rfl) ?_
  intro p e s m below meth c hx hb hr hml hts hown hlocks hB ls hl
  obtain ⟨hP, hK⟩ := hB
  have hl : lv_has ls 21 [(0, .ref om), (1, .int (nI 1)), (2, .long u), (4, .long l_), (6, .int (bI false))] := hl
  have hi5 : ∀ w ∈ u_ws RX5 TX5 25, w ∈ wsX5_isCommon := by decide +kernel
  have f39 := hts (.fieldLink RX5 39 "SweptBoxesModel" "one" "[J") (by decide +kernel)
  have f42 := hts (.fieldLink RX5 42 "SweptBoxesModel" "two" "[J") (by decide +kernel)
  have f132 := hts (.fieldLink RX5 132 "SweptBoxesModel" "my" "J") (by decide +kernel)
  refine lv_iload_n hx hb dX5_isCommon_0 rfl (lv_at hl 1 rfl) ?_
  refine lv_if_ne (tgt := 11) hx hb dX5_isCommon_1 (by decide) (fun c1 => ?_) (fun c1 => ?_)
  · rw [← nI_0, nI_eq (by omega) (by omega)] at c1
    refine lv_aload_n hx hb dX5_isCommon_11 rfl (lv_at hl 0 rfl) ?_
    refine va_get (D := (dC, dI)) (ci := 5) (v := .long my) (C := RX5) (T := TX5) (N := 25) hx hb hts hi5 hown hK hP 0 rfl rfl 17 (by decide) f132 (fun _ h9 => h9) rfl dX5_isCommon_12 ?_
    refine lv_lstore (lv' := [(7, .long my), (0, .ref om), (1, .int (nI 1)), (2, .long u), (4, .long l_), (6, .int (bI false))]) hx hb dX5_isCommon_15 hl (by decide) rfl (fun ls hl => ?_)
    refine lv_aload_n hx hb dX5_isCommon_17 rfl (lv_at hl 1 rfl) ?_
    refine va_get (D := (dC, dI)) (ci := 5) (v := .ref aon) (C := RX5) (T := TX5) (N := 25) hx hb hts hi5 hown hK hP 0 rfl rfl 14 (by decide) f39 (fun _ h9 => h9) rfl dX5_isCommon_18 ?_
    refine lv_iload_n hx hb dX5_isCommon_21 rfl (lv_at hl 2 rfl) ?_
    refine va_lald hx hb hK hP 1 0 rfl rfl (vp_in_nI (show 1 < 4 by omega) (by omega)) dX5_isCommon_22 ?_
    rw [show (nI 1).toNatClampNeg = 1 from nI_clamp (show 1 < 2 ^ 31 by omega)]
    refine lv_lload hx hb dX5_isCommon_23 (lv_at hl 4 rfl) ?_
    refine lv_lmul hx hb dX5_isCommon_25 ?_
    refine lv_lload hx hb dX5_isCommon_26 (lv_at hl 0 rfl) ?_
    refine lv_lload_n hx hb dX5_isCommon_28 rfl (lv_at hl 3 rfl) ?_
    refine lv_lmul hx hb dX5_isCommon_29 ?_
    refine lv_ladd hx hb dX5_isCommon_30 ?_
    refine lv_lstore (lv' := [(9, .long (((fon 1) * l_) + (my * u))), (7, .long my), (0, .ref om), (1, .int (nI 1)), (2, .long u), (4, .long l_), (6, .int (bI false))]) hx hb dX5_isCommon_31 hl (by decide) rfl (fun ls hl => ?_)
    refine lv_aload_n hx hb dX5_isCommon_33 rfl (lv_at hl 2 rfl) ?_
    refine va_get (D := (dC, dI)) (ci := 5) (v := .ref aon) (C := RX5) (T := TX5) (N := 25) hx hb hts hi5 hown hK hP 0 rfl rfl 14 (by decide) f39 (fun _ h9 => h9) rfl dX5_isCommon_34 ?_
    refine lv_iload_n hx hb dX5_isCommon_37 rfl (lv_at hl 3 rfl) ?_
    refine lv_iconst (v := (nI 2)) hx hb dX5_isCommon_38 (by decide) ?_
    refine lv_iadd hx hb dX5_isCommon_39 ?_
    rw [show (nI 1) + (nI 2) = (nI 3) from rfl]
    refine va_lald hx hb hK hP 1 0 rfl rfl (vp_in_nI (show 3 < 4 by omega) (by omega)) dX5_isCommon_40 ?_
    rw [show (nI 3).toNatClampNeg = 3 from nI_clamp (show 3 < 2 ^ 31 by omega)]
    refine lv_lload hx hb dX5_isCommon_41 (lv_at hl 5 rfl) ?_
    refine lv_lmul hx hb dX5_isCommon_43 ?_
    refine lv_lload hx hb dX5_isCommon_44 (lv_at hl 1 rfl) ?_
    refine lv_lload_n hx hb dX5_isCommon_46 rfl (lv_at hl 4 rfl) ?_
    refine lv_lmul hx hb dX5_isCommon_47 ?_
    refine lv_ladd hx hb dX5_isCommon_48 ?_
    refine lv_lstore (lv' := [(11, .long (((fon 3) * l_) + (my * u))), (9, .long (((fon 1) * l_) + (my * u))), (7, .long my), (0, .ref om), (1, .int (nI 1)), (2, .long u), (4, .long l_), (6, .int (bI false))]) hx hb dX5_isCommon_49 hl (by decide) rfl (fun ls hl => ?_)
    refine lv_aload_n hx hb dX5_isCommon_51 rfl (lv_at hl 3 rfl) ?_
    refine va_get (D := (dC, dI)) (ci := 5) (v := .ref atw) (C := RX5) (T := TX5) (N := 25) hx hb hts hi5 hown hK hP 0 rfl rfl 15 (by decide) f42 (fun _ h9 => h9) rfl dX5_isCommon_52 ?_
    refine lv_iload_n hx hb dX5_isCommon_55 rfl (lv_at hl 4 rfl) ?_
    refine va_lald hx hb hK hP 2 0 rfl rfl (vp_in_nI (show 1 < 4 by omega) (by omega)) dX5_isCommon_56 ?_
    rw [show (nI 1).toNatClampNeg = 1 from nI_clamp (show 1 < 2 ^ 31 by omega)]
    refine lv_lload hx hb dX5_isCommon_57 (lv_at hl 6 rfl) ?_
    refine lv_lmul hx hb dX5_isCommon_59 ?_
    refine lv_lstore (lv' := [(13, .long ((ftw 1) * l_)), (11, .long (((fon 3) * l_) + (my * u))), (9, .long (((fon 1) * l_) + (my * u))), (7, .long my), (0, .ref om), (1, .int (nI 1)), (2, .long u), (4, .long l_), (6, .int (bI false))]) hx hb dX5_isCommon_60 hl (by decide) rfl (fun ls hl => ?_)
    refine lv_aload_n hx hb dX5_isCommon_62 rfl (lv_at hl 4 rfl) ?_
    refine va_get (D := (dC, dI)) (ci := 5) (v := .ref atw) (C := RX5) (T := TX5) (N := 25) hx hb hts hi5 hown hK hP 0 rfl rfl 15 (by decide) f42 (fun _ h9 => h9) rfl dX5_isCommon_63 ?_
    refine lv_iload_n hx hb dX5_isCommon_66 rfl (lv_at hl 5 rfl) ?_
    refine lv_iconst (v := (nI 2)) hx hb dX5_isCommon_67 (by decide) ?_
    refine lv_iadd hx hb dX5_isCommon_68 ?_
    rw [show (nI 1) + (nI 2) = (nI 3) from rfl]
    refine va_lald hx hb hK hP 2 0 rfl rfl (vp_in_nI (show 3 < 4 by omega) (by omega)) dX5_isCommon_69 ?_
    rw [show (nI 3).toNatClampNeg = 3 from nI_clamp (show 3 < 2 ^ 31 by omega)]
    refine lv_lload hx hb dX5_isCommon_70 (lv_at hl 7 rfl) ?_
    refine lv_lmul hx hb dX5_isCommon_72 ?_
    refine lv_lstore (lv' := [(15, .long ((ftw 3) * l_)), (13, .long ((ftw 1) * l_)), (11, .long (((fon 3) * l_) + (my * u))), (9, .long (((fon 1) * l_) + (my * u))), (7, .long my), (0, .ref om), (1, .int (nI 1)), (2, .long u), (4, .long l_), (6, .int (bI false))]) hx hb dX5_isCommon_73 hl (by decide) rfl (fun ls hl => ?_)
    refine lv_lload hx hb dX5_isCommon_75 (lv_at hl 3 rfl) ?_
    refine lv_lload hx hb dX5_isCommon_77 (lv_at hl 1 rfl) ?_
    refine W.lcmp hx hb dX5_isCommon_79 ?_
    refine lv_if_le (tgt := 88) hx hb dX5_isCommon_80 (by decide) (fun c80 => ?_) (fun c80 => ?_)
    · rw [lg_cmp_le] at c80
      refine lv_lload hx hb dX5_isCommon_88 (lv_at hl 1 rfl) ?_
      refine lv_lstore (lv' := [(17, .long ((ftw 1) * l_)), (15, .long ((ftw 3) * l_)), (13, .long ((ftw 1) * l_)), (11, .long (((fon 3) * l_) + (my * u))), (9, .long (((fon 1) * l_) + (my * u))), (7, .long my), (0, .ref om), (1, .int (nI 1)), (2, .long u), (4, .long l_), (6, .int (bI false))]) hx hb dX5_isCommon_90 hl (by decide) rfl (fun ls hl => ?_)
      refine lv_lload hx hb dX5_isCommon_92 (lv_at hl 3 rfl) ?_
      refine lv_lload hx hb dX5_isCommon_94 (lv_at hl 1 rfl) ?_
      refine W.lcmp hx hb dX5_isCommon_96 ?_
      refine lv_if_ge (tgt := 105) hx hb dX5_isCommon_97 (by decide) (fun c97 => ?_) (fun c97 => ?_)
      · rw [lg_cmp_ge] at c97
        refine lv_lload hx hb dX5_isCommon_105 (lv_at hl 1 rfl) ?_
        refine lv_lstore (lv' := [(19, .long ((ftw 3) * l_)), (17, .long ((ftw 1) * l_)), (15, .long ((ftw 3) * l_)), (13, .long ((ftw 1) * l_)), (11, .long (((fon 3) * l_) + (my * u))), (9, .long (((fon 1) * l_) + (my * u))), (7, .long my), (0, .ref om), (1, .int (nI 1)), (2, .long u), (4, .long l_), (6, .int (bI false))]) hx hb dX5_isCommon_107 hl (by decide) rfl (fun ls hl => ?_)
        refine lv_iload hx hb dX5_isCommon_109 (lv_at hl 11 rfl) ?_
        refine lv_if_eq (tgt := 146) hx hb dX5_isCommon_111 (by decide) (fun c111 => ?_) (fun c111 => ?_)
        · replace c111 := bI_0 c111
          refine lv_lload hx hb dX5_isCommon_146 (lv_at hl 1 rfl) ?_
          refine lv_lload hx hb dX5_isCommon_148 (lv_at hl 0 rfl) ?_
          refine W.lcmp hx hb dX5_isCommon_150 ?_
          refine lv_if_gt (tgt := 158) hx hb dX5_isCommon_151 (by decide) (fun c151 => ?_) (fun c151 => ?_)
          · rw [lg_cmp_gt] at c151
            refine lv_iconst (v := (nI 0)) hx hb dX5_isCommon_158 (by decide) ?_
            exact kRz hx hb hr hlocks dX5_isCommon_159 (kp0 (by unfold mComE; (try simp only [Int64.lt_iff_toInt_lt, Int64.le_iff_toInt_le, ← Int64.toInt_inj] at c1 c80 c97 c111 c151 ⊢); omega))
          · rw [lg_cmp_gt, Int64.not_lt] at c151
            refine lv_iconst (v := (nI 1)) hx hb dX5_isCommon_154 (by decide) ?_
            refine lv_goto (tgt := 159) hx hb dX5_isCommon_155 (by decide) ?_
            exact kRz hx hb hr hlocks dX5_isCommon_159 (kp1 (by unfold mComE; (try simp only [Int64.lt_iff_toInt_lt, Int64.le_iff_toInt_le, ← Int64.toInt_inj] at c1 c80 c97 c111 c151 ⊢); omega))
        · skip
          exact absurd c111 (by decide)
      · rw [lg_cmp_ge, Int64.not_le] at c97
        refine lv_lload hx hb dX5_isCommon_100 (lv_at hl 3 rfl) ?_
        refine lv_goto (tgt := 107) hx hb dX5_isCommon_102 (by decide) ?_
        refine lv_lstore (lv' := [(19, .long (((fon 3) * l_) + (my * u))), (17, .long ((ftw 1) * l_)), (15, .long ((ftw 3) * l_)), (13, .long ((ftw 1) * l_)), (11, .long (((fon 3) * l_) + (my * u))), (9, .long (((fon 1) * l_) + (my * u))), (7, .long my), (0, .ref om), (1, .int (nI 1)), (2, .long u), (4, .long l_), (6, .int (bI false))]) hx hb dX5_isCommon_107 hl (by decide) rfl (fun ls hl => ?_)
        refine lv_iload hx hb dX5_isCommon_109 (lv_at hl 11 rfl) ?_
        refine lv_if_eq (tgt := 146) hx hb dX5_isCommon_111 (by decide) (fun c111 => ?_) (fun c111 => ?_)
        · replace c111 := bI_0 c111
          refine lv_lload hx hb dX5_isCommon_146 (lv_at hl 1 rfl) ?_
          refine lv_lload hx hb dX5_isCommon_148 (lv_at hl 0 rfl) ?_
          refine W.lcmp hx hb dX5_isCommon_150 ?_
          refine lv_if_gt (tgt := 158) hx hb dX5_isCommon_151 (by decide) (fun c151 => ?_) (fun c151 => ?_)
          · rw [lg_cmp_gt] at c151
            refine lv_iconst (v := (nI 0)) hx hb dX5_isCommon_158 (by decide) ?_
            exact kRz hx hb hr hlocks dX5_isCommon_159 (kp0 (by unfold mComE; (try simp only [Int64.lt_iff_toInt_lt, Int64.le_iff_toInt_le, ← Int64.toInt_inj] at c1 c80 c97 c111 c151 ⊢); omega))
          · rw [lg_cmp_gt, Int64.not_lt] at c151
            refine lv_iconst (v := (nI 1)) hx hb dX5_isCommon_154 (by decide) ?_
            refine lv_goto (tgt := 159) hx hb dX5_isCommon_155 (by decide) ?_
            exact kRz hx hb hr hlocks dX5_isCommon_159 (kp1 (by unfold mComE; (try simp only [Int64.lt_iff_toInt_lt, Int64.le_iff_toInt_le, ← Int64.toInt_inj] at c1 c80 c97 c111 c151 ⊢); omega))
        · skip
          exact absurd c111 (by decide)
    · rw [lg_cmp_le, Int64.not_le] at c80
      refine lv_lload hx hb dX5_isCommon_83 (lv_at hl 3 rfl) ?_
      refine lv_goto (tgt := 90) hx hb dX5_isCommon_85 (by decide) ?_
      refine lv_lstore (lv' := [(17, .long (((fon 1) * l_) + (my * u))), (15, .long ((ftw 3) * l_)), (13, .long ((ftw 1) * l_)), (11, .long (((fon 3) * l_) + (my * u))), (9, .long (((fon 1) * l_) + (my * u))), (7, .long my), (0, .ref om), (1, .int (nI 1)), (2, .long u), (4, .long l_), (6, .int (bI false))]) hx hb dX5_isCommon_90 hl (by decide) rfl (fun ls hl => ?_)
      refine lv_lload hx hb dX5_isCommon_92 (lv_at hl 3 rfl) ?_
      refine lv_lload hx hb dX5_isCommon_94 (lv_at hl 1 rfl) ?_
      refine W.lcmp hx hb dX5_isCommon_96 ?_
      refine lv_if_ge (tgt := 105) hx hb dX5_isCommon_97 (by decide) (fun c97 => ?_) (fun c97 => ?_)
      · rw [lg_cmp_ge] at c97
        refine lv_lload hx hb dX5_isCommon_105 (lv_at hl 1 rfl) ?_
        refine lv_lstore (lv' := [(19, .long ((ftw 3) * l_)), (17, .long (((fon 1) * l_) + (my * u))), (15, .long ((ftw 3) * l_)), (13, .long ((ftw 1) * l_)), (11, .long (((fon 3) * l_) + (my * u))), (9, .long (((fon 1) * l_) + (my * u))), (7, .long my), (0, .ref om), (1, .int (nI 1)), (2, .long u), (4, .long l_), (6, .int (bI false))]) hx hb dX5_isCommon_107 hl (by decide) rfl (fun ls hl => ?_)
        refine lv_iload hx hb dX5_isCommon_109 (lv_at hl 11 rfl) ?_
        refine lv_if_eq (tgt := 146) hx hb dX5_isCommon_111 (by decide) (fun c111 => ?_) (fun c111 => ?_)
        · replace c111 := bI_0 c111
          refine lv_lload hx hb dX5_isCommon_146 (lv_at hl 1 rfl) ?_
          refine lv_lload hx hb dX5_isCommon_148 (lv_at hl 0 rfl) ?_
          refine W.lcmp hx hb dX5_isCommon_150 ?_
          refine lv_if_gt (tgt := 158) hx hb dX5_isCommon_151 (by decide) (fun c151 => ?_) (fun c151 => ?_)
          · rw [lg_cmp_gt] at c151
            refine lv_iconst (v := (nI 0)) hx hb dX5_isCommon_158 (by decide) ?_
            exact kRz hx hb hr hlocks dX5_isCommon_159 (kp0 (by unfold mComE; (try simp only [Int64.lt_iff_toInt_lt, Int64.le_iff_toInt_le, ← Int64.toInt_inj] at c1 c80 c97 c111 c151 ⊢); omega))
          · rw [lg_cmp_gt, Int64.not_lt] at c151
            refine lv_iconst (v := (nI 1)) hx hb dX5_isCommon_154 (by decide) ?_
            refine lv_goto (tgt := 159) hx hb dX5_isCommon_155 (by decide) ?_
            exact kRz hx hb hr hlocks dX5_isCommon_159 (kp1 (by unfold mComE; (try simp only [Int64.lt_iff_toInt_lt, Int64.le_iff_toInt_le, ← Int64.toInt_inj] at c1 c80 c97 c111 c151 ⊢); omega))
        · skip
          exact absurd c111 (by decide)
      · rw [lg_cmp_ge, Int64.not_le] at c97
        refine lv_lload hx hb dX5_isCommon_100 (lv_at hl 3 rfl) ?_
        refine lv_goto (tgt := 107) hx hb dX5_isCommon_102 (by decide) ?_
        refine lv_lstore (lv' := [(19, .long (((fon 3) * l_) + (my * u))), (17, .long (((fon 1) * l_) + (my * u))), (15, .long ((ftw 3) * l_)), (13, .long ((ftw 1) * l_)), (11, .long (((fon 3) * l_) + (my * u))), (9, .long (((fon 1) * l_) + (my * u))), (7, .long my), (0, .ref om), (1, .int (nI 1)), (2, .long u), (4, .long l_), (6, .int (bI false))]) hx hb dX5_isCommon_107 hl (by decide) rfl (fun ls hl => ?_)
        refine lv_iload hx hb dX5_isCommon_109 (lv_at hl 11 rfl) ?_
        refine lv_if_eq (tgt := 146) hx hb dX5_isCommon_111 (by decide) (fun c111 => ?_) (fun c111 => ?_)
        · replace c111 := bI_0 c111
          refine lv_lload hx hb dX5_isCommon_146 (lv_at hl 1 rfl) ?_
          refine lv_lload hx hb dX5_isCommon_148 (lv_at hl 0 rfl) ?_
          refine W.lcmp hx hb dX5_isCommon_150 ?_
          refine lv_if_gt (tgt := 158) hx hb dX5_isCommon_151 (by decide) (fun c151 => ?_) (fun c151 => ?_)
          · rw [lg_cmp_gt] at c151
            refine lv_iconst (v := (nI 0)) hx hb dX5_isCommon_158 (by decide) ?_
            exact kRz hx hb hr hlocks dX5_isCommon_159 (kp0 (by unfold mComE; (try simp only [Int64.lt_iff_toInt_lt, Int64.le_iff_toInt_le, ← Int64.toInt_inj] at c1 c80 c97 c111 c151 ⊢); omega))
          · rw [lg_cmp_gt, Int64.not_lt] at c151
            refine lv_iconst (v := (nI 1)) hx hb dX5_isCommon_154 (by decide) ?_
            refine lv_goto (tgt := 159) hx hb dX5_isCommon_155 (by decide) ?_
            exact kRz hx hb hr hlocks dX5_isCommon_159 (kp1 (by unfold mComE; (try simp only [Int64.lt_iff_toInt_lt, Int64.le_iff_toInt_le, ← Int64.toInt_inj] at c1 c80 c97 c111 c151 ⊢); omega))
        · skip
          exact absurd c111 (by decide)
  · skip
    exact absurd c1 (by decide)

set_option maxHeartbeats 4000000 in
set_option maxRecDepth 100000 in
theorem tX5_isAt_t (l : Launch) (dC : Nat → ClassId) (dI : Nat → Nat → Nat) (cJ cI cZ : ClassId) (om cd ns apx apy act nb asd amv asl apl asw nw aor nc aon atw aup alw nm : Nat) (mx my up lo rx ry : Int64) (fon : Nat → Int64) (ftw : Nat → Int64) (u l_ : Int64)  : PMi l yX5_isAt wsX5_isAt { frames := 1, cells := 0, slots := 0, locals := 40 } [.ref om, .long u, .long l_, .int (bI true)] (dC, dI) [(om, .inr (5, [.int (nI cd), .int (nI ns), .ref apx, .ref apy, .ref act, .int (nI nb), .ref asd, .ref amv, .ref asl, .ref apl, .ref asw, .int (nI nw), .ref aor, .int (nI nc), .ref aon, .ref atw, .long mx, .long my, .ref aup, .ref alw, .int (nI nm), .long up, .long lo, .long rx, .long ry])), (aon, .inl (cJ, 4, .inr (.inl fon))), (atw, .inl (cJ, 4, .inr (.inl ftw)))] [(cJ, .long), (cI, .int), (cZ, .boolean)] (bI (pB (mComI (fon 0) (fon 2) (ftw 0) (ftw 2) mx u l_ ∧ mComI (fon 1) (fon 3) (ftw 1) (ftw 3) my u l_))) := by
  refine kOf (cc := cX5_isAt) (maxL := 6) (ret := (some .boolean)) (by decide) rfl (Nat.le_of_ble_eq_true rfl) ?_
  intro p e s m below meth c hx hb hr hml hts hown hlocks hB ls hl
  obtain ⟨hP, hK⟩ := hB
  have hl : lv_has ls 6 [(0, .ref om), (1, .long u), (3, .long l_), (5, .int (bI true))] := hl
  refine lv_aload_n hx hb dX5_isAt_0 rfl (lv_at hl 0 rfl) ?_
  refine lv_iconst (v := (nI 0)) hx hb dX5_isAt_1 (by decide) ?_
  refine lv_lload_n hx hb dX5_isAt_2 rfl (lv_at hl 1 rfl) ?_
  refine lv_lload_n hx hb dX5_isAt_3 rfl (lv_at hl 2 rfl) ?_
  refine lv_iload hx hb dX5_isAt_4 (lv_at hl 3 rfl) ?_
  refine kpVi (q0 := 0) (ci := 5) (As := [.int (nI 0), .long u, .long l_, .int (bI true)]) (rest := []) (WC := [(om, .inr (5, [.int (nI cd), .int (nI ns), .ref apx, .ref apy, .ref act, .int (nI nb), .ref asd, .ref amv, .ref asl, .ref apl, .ref asw, .int (nI nw), .ref aor, .int (nI nc), .ref aon, .ref atw, .long mx, .long my, .ref aup, .ref alw, .int (nI nm), .long up, .long lo, .long rx, .long ry])), (aon, .inl (cJ, 4, .inr (.inl fon))), (atw, .inl (cJ, 4, .inr (.inl ftw)))]) (tyC := [(cJ, .long), (cI, .int), (cZ, .boolean)]) ⟨hx, hb, hml, hown, hts⟩ (tX5_isCommon_0t l dC dI cJ cI cZ om cd ns apx apy act nb asd amv asl apl asw nw aor nc aon atw aup alw nm mx my up lo rx ry fon ftw u l_) (cwV 4 hts gX5_isAt_X5_isCommon rfl rfl rfl (by decide +kernel) ⟨Nat.le_of_ble_eq_true rfl, Nat.le_of_ble_eq_true rfl⟩) (kPick (isC := [0, 1, 2]) hP rfl) (hK.sub [0, 1, 2] rfl) rfl rfl rfl rfl hl.1 (Nat.le_of_ble_eq_true rfl) dX5_isAt_6 ⟨Nat.le_of_ble_eq_true rfl, Nat.le_of_ble_eq_true rfl⟩ ?_
  refine lv_if_eq (tgt := 28) hx hb dX5_isAt_9 (by decide) (fun c9 => ?_) (fun c9 => ?_)
  · replace c9 := bI_0 c9; replace c9 := pB_not c9
    refine lv_iconst (v := (nI 0)) hx hb dX5_isAt_28 (by decide) ?_
    exact kRz hx hb hr hlocks dX5_isAt_29 (kp0 (fun h => c9 h.1))
  · replace c9 := bI_n c9; replace c9 := pB_iff.mp c9
    refine lv_aload_n hx hb dX5_isAt_12 rfl (lv_at hl 0 rfl) ?_
    refine lv_iconst (v := (nI 1)) hx hb dX5_isAt_13 (by decide) ?_
    refine lv_lload_n hx hb dX5_isAt_14 rfl (lv_at hl 1 rfl) ?_
    refine lv_lload_n hx hb dX5_isAt_15 rfl (lv_at hl 2 rfl) ?_
    refine lv_iload hx hb dX5_isAt_16 (lv_at hl 3 rfl) ?_
    refine kpVi (q0 := 0) (ci := 5) (As := [.int (nI 1), .long u, .long l_, .int (bI true)]) (rest := []) (WC := [(om, .inr (5, [.int (nI cd), .int (nI ns), .ref apx, .ref apy, .ref act, .int (nI nb), .ref asd, .ref amv, .ref asl, .ref apl, .ref asw, .int (nI nw), .ref aor, .int (nI nc), .ref aon, .ref atw, .long mx, .long my, .ref aup, .ref alw, .int (nI nm), .long up, .long lo, .long rx, .long ry])), (aon, .inl (cJ, 4, .inr (.inl fon))), (atw, .inl (cJ, 4, .inr (.inl ftw)))]) (tyC := [(cJ, .long), (cI, .int), (cZ, .boolean)]) ⟨hx, hb, hml, hown, hts⟩ (tX5_isCommon_1t l dC dI cJ cI cZ om cd ns apx apy act nb asd amv asl apl asw nw aor nc aon atw aup alw nm mx my up lo rx ry fon ftw u l_) (cwV 4 hts gX5_isAt_X5_isCommon rfl rfl rfl (by decide +kernel) ⟨Nat.le_of_ble_eq_true rfl, Nat.le_of_ble_eq_true rfl⟩) (kPick (isC := [0, 1, 2]) hP rfl) (hK.sub [0, 1, 2] rfl) rfl rfl rfl rfl hl.1 (Nat.le_of_ble_eq_true rfl) dX5_isAt_18 ⟨Nat.le_of_ble_eq_true rfl, Nat.le_of_ble_eq_true rfl⟩ ?_
    refine lv_if_eq (tgt := 28) hx hb dX5_isAt_21 (by decide) (fun c21 => ?_) (fun c21 => ?_)
    · replace c21 := bI_0 c21; replace c21 := pB_not c21
      refine lv_iconst (v := (nI 0)) hx hb dX5_isAt_28 (by decide) ?_
      exact kRz hx hb hr hlocks dX5_isAt_29 (kp0 (fun h => c21 h.2))
    · replace c21 := bI_n c21; replace c21 := pB_iff.mp c21
      refine lv_iconst (v := (nI 1)) hx hb dX5_isAt_24 (by decide) ?_
      refine lv_goto (tgt := 29) hx hb dX5_isAt_25 (by decide) ?_
      exact kRz hx hb hr hlocks dX5_isAt_29 (kp1 ⟨c9, c21⟩)

set_option maxHeartbeats 4000000 in
set_option maxRecDepth 100000 in
theorem tX5_isAt_f (l : Launch) (dC : Nat → ClassId) (dI : Nat → Nat → Nat) (cJ cI cZ : ClassId) (om cd ns apx apy act nb asd amv asl apl asw nw aor nc aon atw aup alw nm : Nat) (mx my up lo rx ry : Int64) (fon : Nat → Int64) (ftw : Nat → Int64) (u l_ : Int64)  : PMi l yX5_isAt wsX5_isAt { frames := 1, cells := 0, slots := 0, locals := 40 } [.ref om, .long u, .long l_, .int (bI false)] (dC, dI) [(om, .inr (5, [.int (nI cd), .int (nI ns), .ref apx, .ref apy, .ref act, .int (nI nb), .ref asd, .ref amv, .ref asl, .ref apl, .ref asw, .int (nI nw), .ref aor, .int (nI nc), .ref aon, .ref atw, .long mx, .long my, .ref aup, .ref alw, .int (nI nm), .long up, .long lo, .long rx, .long ry])), (aon, .inl (cJ, 4, .inr (.inl fon))), (atw, .inl (cJ, 4, .inr (.inl ftw)))] [(cJ, .long), (cI, .int), (cZ, .boolean)] (bI (pB (mComE (fon 0) (fon 2) (ftw 0) (ftw 2) mx u l_ ∧ mComE (fon 1) (fon 3) (ftw 1) (ftw 3) my u l_))) := by
  refine kOf (cc := cX5_isAt) (maxL := 6) (ret := (some .boolean)) (by decide) rfl (Nat.le_of_ble_eq_true rfl) ?_
  intro p e s m below meth c hx hb hr hml hts hown hlocks hB ls hl
  obtain ⟨hP, hK⟩ := hB
  have hl : lv_has ls 6 [(0, .ref om), (1, .long u), (3, .long l_), (5, .int (bI false))] := hl
  refine lv_aload_n hx hb dX5_isAt_0 rfl (lv_at hl 0 rfl) ?_
  refine lv_iconst (v := (nI 0)) hx hb dX5_isAt_1 (by decide) ?_
  refine lv_lload_n hx hb dX5_isAt_2 rfl (lv_at hl 1 rfl) ?_
  refine lv_lload_n hx hb dX5_isAt_3 rfl (lv_at hl 2 rfl) ?_
  refine lv_iload hx hb dX5_isAt_4 (lv_at hl 3 rfl) ?_
  refine kpVi (q0 := 0) (ci := 5) (As := [.int (nI 0), .long u, .long l_, .int (bI false)]) (rest := []) (WC := [(om, .inr (5, [.int (nI cd), .int (nI ns), .ref apx, .ref apy, .ref act, .int (nI nb), .ref asd, .ref amv, .ref asl, .ref apl, .ref asw, .int (nI nw), .ref aor, .int (nI nc), .ref aon, .ref atw, .long mx, .long my, .ref aup, .ref alw, .int (nI nm), .long up, .long lo, .long rx, .long ry])), (aon, .inl (cJ, 4, .inr (.inl fon))), (atw, .inl (cJ, 4, .inr (.inl ftw)))]) (tyC := [(cJ, .long), (cI, .int), (cZ, .boolean)]) ⟨hx, hb, hml, hown, hts⟩ (tX5_isCommon_0f l dC dI cJ cI cZ om cd ns apx apy act nb asd amv asl apl asw nw aor nc aon atw aup alw nm mx my up lo rx ry fon ftw u l_) (cwV 4 hts gX5_isAt_X5_isCommon rfl rfl rfl (by decide +kernel) ⟨Nat.le_of_ble_eq_true rfl, Nat.le_of_ble_eq_true rfl⟩) (kPick (isC := [0, 1, 2]) hP rfl) (hK.sub [0, 1, 2] rfl) rfl rfl rfl rfl hl.1 (Nat.le_of_ble_eq_true rfl) dX5_isAt_6 ⟨Nat.le_of_ble_eq_true rfl, Nat.le_of_ble_eq_true rfl⟩ ?_
  refine lv_if_eq (tgt := 28) hx hb dX5_isAt_9 (by decide) (fun c9 => ?_) (fun c9 => ?_)
  · replace c9 := bI_0 c9; replace c9 := pB_not c9
    refine lv_iconst (v := (nI 0)) hx hb dX5_isAt_28 (by decide) ?_
    exact kRz hx hb hr hlocks dX5_isAt_29 (kp0 (fun h => c9 h.1))
  · replace c9 := bI_n c9; replace c9 := pB_iff.mp c9
    refine lv_aload_n hx hb dX5_isAt_12 rfl (lv_at hl 0 rfl) ?_
    refine lv_iconst (v := (nI 1)) hx hb dX5_isAt_13 (by decide) ?_
    refine lv_lload_n hx hb dX5_isAt_14 rfl (lv_at hl 1 rfl) ?_
    refine lv_lload_n hx hb dX5_isAt_15 rfl (lv_at hl 2 rfl) ?_
    refine lv_iload hx hb dX5_isAt_16 (lv_at hl 3 rfl) ?_
    refine kpVi (q0 := 0) (ci := 5) (As := [.int (nI 1), .long u, .long l_, .int (bI false)]) (rest := []) (WC := [(om, .inr (5, [.int (nI cd), .int (nI ns), .ref apx, .ref apy, .ref act, .int (nI nb), .ref asd, .ref amv, .ref asl, .ref apl, .ref asw, .int (nI nw), .ref aor, .int (nI nc), .ref aon, .ref atw, .long mx, .long my, .ref aup, .ref alw, .int (nI nm), .long up, .long lo, .long rx, .long ry])), (aon, .inl (cJ, 4, .inr (.inl fon))), (atw, .inl (cJ, 4, .inr (.inl ftw)))]) (tyC := [(cJ, .long), (cI, .int), (cZ, .boolean)]) ⟨hx, hb, hml, hown, hts⟩ (tX5_isCommon_1f l dC dI cJ cI cZ om cd ns apx apy act nb asd amv asl apl asw nw aor nc aon atw aup alw nm mx my up lo rx ry fon ftw u l_) (cwV 4 hts gX5_isAt_X5_isCommon rfl rfl rfl (by decide +kernel) ⟨Nat.le_of_ble_eq_true rfl, Nat.le_of_ble_eq_true rfl⟩) (kPick (isC := [0, 1, 2]) hP rfl) (hK.sub [0, 1, 2] rfl) rfl rfl rfl rfl hl.1 (Nat.le_of_ble_eq_true rfl) dX5_isAt_18 ⟨Nat.le_of_ble_eq_true rfl, Nat.le_of_ble_eq_true rfl⟩ ?_
    refine lv_if_eq (tgt := 28) hx hb dX5_isAt_21 (by decide) (fun c21 => ?_) (fun c21 => ?_)
    · replace c21 := bI_0 c21; replace c21 := pB_not c21
      refine lv_iconst (v := (nI 0)) hx hb dX5_isAt_28 (by decide) ?_
      exact kRz hx hb hr hlocks dX5_isAt_29 (kp0 (fun h => c21 h.2))
    · replace c21 := bI_n c21; replace c21 := pB_iff.mp c21
      refine lv_iconst (v := (nI 1)) hx hb dX5_isAt_24 (by decide) ?_
      refine lv_goto (tgt := 29) hx hb dX5_isAt_25 (by decide) ?_
      exact kRz hx hb hr hlocks dX5_isAt_29 (kp1 ⟨c9, c21⟩)

def mLd (f g : Nat → Int64) (b : Nat) : Nat → Int64 := vp_updL (vp_updL (vp_updL (vp_updL f 0 (g b)) 1 (g (b + 1))) 2 (g (b + 2))) 3 (g (b + 3))
def mFour (f : Nat → Int64) (a b d e_ : Int64) : Nat → Int64 := vp_updL (vp_updL (vp_updL (vp_updL f 0 a) 1 b) 2 d) 3 e_
set_option maxHeartbeats 4000000 in
set_option maxRecDepth 100000 in
theorem tX5_load (l : Launch) (dC : Nat → ClassId) (dI : Nat → Nat → Nat) (cJ cI cZ : ClassId) (om cd ns apx apy act nb asd amv asl apl asw nw aor nc aon atw aup alw nm : Nat) (mx my up lo rx ry : Int64) (fsd : Nat → Int64) (fmv : Nat → Int64) (fon : Nat → Int64) (ftw : Nat → Int64) (a b : Nat) (ha : a < 16) (hb_ : b < 16) : MMv l yX5_load wsX5_load { frames := 0, cells := 0, slots := 0, locals := 0 } [.ref om, .int (nI a), .int (nI b)] (dC, dI) [(om, .inr (5, [.int (nI cd), .int (nI ns), .ref apx, .ref apy, .ref act, .int (nI nb), .ref asd, .ref amv, .ref asl, .ref apl, .ref asw, .int (nI nw), .ref aor, .int (nI nc), .ref aon, .ref atw, .long mx, .long my, .ref aup, .ref alw, .int (nI nm), .long up, .long lo, .long rx, .long ry])), (asd, .inl (cJ, 64, .inr (.inl fsd))), (amv, .inl (cJ, 32, .inr (.inl fmv))), (aon, .inl (cJ, 4, .inr (.inl fon))), (atw, .inl (cJ, 4, .inr (.inl ftw)))] [(om, .inr (5, [.int (nI cd), .int (nI ns), .ref apx, .ref apy, .ref act, .int (nI nb), .ref asd, .ref amv, .ref asl, .ref apl, .ref asw, .int (nI nw), .ref aor, .int (nI nc), .ref aon, .ref atw, .long (fmv (2 * a) - fmv (2 * b)), .long (fmv ((2 * a) + 1) - fmv ((2 * b) + 1)), .ref aup, .ref alw, .int (nI nm), .long up, .long lo, .long rx, .long ry])), (asd, .inl (cJ, 64, .inr (.inl fsd))), (amv, .inl (cJ, 32, .inr (.inl fmv))), (aon, .inl (cJ, 4, .inr (.inl (mLd fon fsd (4 * a))))), (atw, .inl (cJ, 4, .inr (.inl (mLd ftw fsd (4 * b)))))] [(cJ, .long), (cI, .int), (cZ, .boolean)] := by
  intro sz
  refine kOf (cc := cX5_load) (maxL := 4) (ret := none) (by decide) rfl (Nat.le_of_ble_eq_true rfl) ?_
  intro p e s m below meth c hx hb hr hml hts hown hlocks hB ls hl
  obtain ⟨hsz, hP, hK, hD0⟩ := hB
  subst hsz
  have hD := hD0.self (sz := s.heap.size)
  generalize hAe : va_A [(om, .inr (5, [.int (nI cd), .int (nI ns), .ref apx, .ref apy, .ref act, .int (nI nb), .ref asd, .ref amv, .ref asl, .ref apl, .ref asw, .int (nI nw), .ref aor, .int (nI nc), .ref aon, .ref atw, .long mx, .long my, .ref aup, .ref alw, .int (nI nm), .long up, .long lo, .long rx, .long ry])), (asd, .inl (cJ, 64, .inr (.inl fsd))), (amv, .inl (cJ, 32, .inr (.inl fmv))), (aon, .inl (cJ, 4, .inr (.inl fon))), (atw, .inl (cJ, 4, .inr (.inl ftw)))] s.heap.size = A at hD ⊢
  have hA : ∀ q : Nat, s.heap.size ≤ q → A q := fun q h => by rw [← hAe]; exact Or.inr h
  have hS : va_S A s.heap s.heap [] := va_S.rf
  have hl : lv_has ls 4 [(0, .ref om), (1, .int (nI a)), (2, .int (nI b))] := hl
  have hi5 : ∀ w ∈ u_ws RX5 TX5 25, w ∈ wsX5_load := by decide +kernel
  have f20 := hts (.fieldLink RX5 20 "SweptBoxesModel" "sides" "[J") (by decide +kernel)
  have f23 := hts (.fieldLink RX5 23 "SweptBoxesModel" "moves" "[J") (by decide +kernel)
  have f39 := hts (.fieldLink RX5 39 "SweptBoxesModel" "one" "[J") (by decide +kernel)
  have f42 := hts (.fieldLink RX5 42 "SweptBoxesModel" "two" "[J") (by decide +kernel)
  have f128 := hts (.fieldLink RX5 128 "SweptBoxesModel" "mx" "J") (by decide +kernel)
  have f132 := hts (.fieldLink RX5 132 "SweptBoxesModel" "my" "J") (by decide +kernel)
  refine lv_iconst (v := (nI 0)) hx hb dX5_load_0 (by decide) ?_
  refine lv_istore_n (lv' := [(3, .int (nI 0)), (0, .ref om), (1, .int (nI a)), (2, .int (nI b))]) hx hb dX5_load_1 rfl hl (by decide) rfl (fun ls hl => ?_)
  refine lv_iload_n hx hb dX5_load_2 rfl (lv_at hl 0 rfl) ?_
  refine lv_iconst (v := (nI 4)) hx hb dX5_load_3 (by decide) ?_
  refine lv_icmp_ge (tgt := 45) hx hb dX5_load_4 (by decide) (fun c4 => ?_) (fun c4 => ?_)
  · skip
    exact absurd c4 (by decide)
  · rw [nI_leI (by omega) (by omega), Nat.not_le] at c4
    refine lv_aload_n hx hb dX5_load_7 rfl (lv_at hl 1 rfl) ?_
    refine va_get (D := (dC, dI)) (ci := 5) (v := .ref aon) (C := RX5) (T := TX5) (N := 25) hx hb hts hi5 hown hK hP 0 rfl rfl 14 (by decide) f39 (fun _ h9 => h9) rfl dX5_load_8 ?_
    refine lv_iload_n hx hb dX5_load_11 rfl (lv_at hl 0 rfl) ?_
    refine lv_aload_n hx hb dX5_load_12 rfl (lv_at hl 1 rfl) ?_
    refine va_get (D := (dC, dI)) (ci := 5) (v := .ref asd) (C := RX5) (T := TX5) (N := 25) hx hb hts hi5 hown hK hP 0 rfl rfl 6 (by decide) f20 (fun _ h9 => h9) rfl dX5_load_13 ?_
    refine lv_iconst (v := (nI 4)) hx hb dX5_load_16 (by decide) ?_
    refine lv_iload_n hx hb dX5_load_17 rfl (lv_at hl 2 rfl) ?_
    refine lv_imul hx hb dX5_load_18 ?_
    rw [show (nI 4) * (nI a) = (nI (4 * a)) from pk_mul 4 a]
    refine lv_iload_n hx hb dX5_load_19 rfl (lv_at hl 0 rfl) ?_
    refine lv_iadd hx hb dX5_load_20 ?_
    rw [show (nI (4 * a)) + (nI 0) = (nI (((4 * a)) + 0)) from nI_add ((4 * a)) 0]
    refine va_lald hx hb hK hP 1 0 rfl rfl (vp_in_nI (show (((4 * a)) + 0) < 64 by omega) (by omega)) dX5_load_21 ?_
    rw [show (nI (((4 * a)) + 0)).toNatClampNeg = (((4 * a)) + 0) from nI_clamp (show (((4 * a)) + 0) < 2 ^ 31 by omega)]
    refine va_last hx hb hK hP hD hS 3 0 rfl rfl (vp_in_nI (show 0 < 4 by omega) (by omega)) dX5_load_22 (fun H locs hP hD hS => ?_)
    rw [show (nI 0).toNatClampNeg = 0 from nI_clamp (show 0 < 2 ^ 31 by omega)] at hP hD
    have hP : va_P (dC, dI) vwCl [(om, .inr (5, [.int (nI cd), .int (nI ns), .ref apx, .ref apy, .ref act, .int (nI nb), .ref asd, .ref amv, .ref asl, .ref apl, .ref asw, .int (nI nw), .ref aor, .int (nI nc), .ref aon, .ref atw, .long mx, .long my, .ref aup, .ref alw, .int (nI nm), .long up, .long lo, .long rx, .long ry])), (asd, .inl (cJ, 64, .inr (.inl fsd))), (amv, .inl (cJ, 32, .inr (.inl fmv))), (aon, .inl (cJ, 4, .inr (.inl (vp_updL fon 0 (fsd ((((4 * a)) + 0))))))), (atw, .inl (cJ, 4, .inr (.inl ftw)))] H := hP
    have hD : va_D A [(om, .inr (5, [.int (nI cd), .int (nI ns), .ref apx, .ref apy, .ref act, .int (nI nb), .ref asd, .ref amv, .ref asl, .ref apl, .ref asw, .int (nI nw), .ref aor, .int (nI nc), .ref aon, .ref atw, .long mx, .long my, .ref aup, .ref alw, .int (nI nm), .long up, .long lo, .long rx, .long ry])), (asd, .inl (cJ, 64, .inr (.inl fsd))), (amv, .inl (cJ, 32, .inr (.inl fmv))), (aon, .inl (cJ, 4, .inr (.inl (vp_updL fon 0 (fsd ((((4 * a)) + 0))))))), (atw, .inl (cJ, 4, .inr (.inl ftw)))] := hD
    refine lv_aload_n hx hb dX5_load_23 rfl (lv_at hl 1 rfl) ?_
    refine va_get (D := (dC, dI)) (ci := 5) (v := .ref atw) (C := RX5) (T := TX5) (N := 25) hx hb hts hi5 hown hK hP 0 rfl rfl 15 (by decide) f42 (fun _ h9 => h9) rfl dX5_load_24 ?_
    refine lv_iload_n hx hb dX5_load_27 rfl (lv_at hl 0 rfl) ?_
    refine lv_aload_n hx hb dX5_load_28 rfl (lv_at hl 1 rfl) ?_
    refine va_get (D := (dC, dI)) (ci := 5) (v := .ref asd) (C := RX5) (T := TX5) (N := 25) hx hb hts hi5 hown hK hP 0 rfl rfl 6 (by decide) f20 (fun _ h9 => h9) rfl dX5_load_29 ?_
    refine lv_iconst (v := (nI 4)) hx hb dX5_load_32 (by decide) ?_
    refine lv_iload_n hx hb dX5_load_33 rfl (lv_at hl 3 rfl) ?_
    refine lv_imul hx hb dX5_load_34 ?_
    rw [show (nI 4) * (nI b) = (nI (4 * b)) from pk_mul 4 b]
    refine lv_iload_n hx hb dX5_load_35 rfl (lv_at hl 0 rfl) ?_
    refine lv_iadd hx hb dX5_load_36 ?_
    rw [show (nI (4 * b)) + (nI 0) = (nI (((4 * b)) + 0)) from nI_add ((4 * b)) 0]
    refine va_lald hx hb hK hP 1 0 rfl rfl (vp_in_nI (show (((4 * b)) + 0) < 64 by omega) (by omega)) dX5_load_37 ?_
    rw [show (nI (((4 * b)) + 0)).toNatClampNeg = (((4 * b)) + 0) from nI_clamp (show (((4 * b)) + 0) < 2 ^ 31 by omega)]
    refine va_last hx hb hK hP hD hS 4 0 rfl rfl (vp_in_nI (show 0 < 4 by omega) (by omega)) dX5_load_38 (fun H locs hP hD hS => ?_)
    rw [show (nI 0).toNatClampNeg = 0 from nI_clamp (show 0 < 2 ^ 31 by omega)] at hP hD
    have hP : va_P (dC, dI) vwCl [(om, .inr (5, [.int (nI cd), .int (nI ns), .ref apx, .ref apy, .ref act, .int (nI nb), .ref asd, .ref amv, .ref asl, .ref apl, .ref asw, .int (nI nw), .ref aor, .int (nI nc), .ref aon, .ref atw, .long mx, .long my, .ref aup, .ref alw, .int (nI nm), .long up, .long lo, .long rx, .long ry])), (asd, .inl (cJ, 64, .inr (.inl fsd))), (amv, .inl (cJ, 32, .inr (.inl fmv))), (aon, .inl (cJ, 4, .inr (.inl (vp_updL fon 0 (fsd ((((4 * a)) + 0))))))), (atw, .inl (cJ, 4, .inr (.inl (vp_updL ftw 0 (fsd ((((4 * b)) + 0)))))))] H := hP
    have hD : va_D A [(om, .inr (5, [.int (nI cd), .int (nI ns), .ref apx, .ref apy, .ref act, .int (nI nb), .ref asd, .ref amv, .ref asl, .ref apl, .ref asw, .int (nI nw), .ref aor, .int (nI nc), .ref aon, .ref atw, .long mx, .long my, .ref aup, .ref alw, .int (nI nm), .long up, .long lo, .long rx, .long ry])), (asd, .inl (cJ, 64, .inr (.inl fsd))), (amv, .inl (cJ, 32, .inr (.inl fmv))), (aon, .inl (cJ, 4, .inr (.inl (vp_updL fon 0 (fsd ((((4 * a)) + 0))))))), (atw, .inl (cJ, 4, .inr (.inl (vp_updL ftw 0 (fsd ((((4 * b)) + 0)))))))] := hD
    refine lv_iinc (v := (nI 1)) (lv' := [(3, .int (nI 1)), (0, .ref om), (1, .int (nI a)), (2, .int (nI b))]) hx hb dX5_load_39 hl (k := 0) rfl rfl (by decide) rfl (fun ls hl => ?_)
    refine lv_goto (tgt := 2) hx hb dX5_load_42 (by decide) ?_
    refine lv_iload_n hx hb dX5_load_2 rfl (lv_at hl 0 rfl) ?_
    refine lv_iconst (v := (nI 4)) hx hb dX5_load_3 (by decide) ?_
    refine lv_icmp_ge (tgt := 45) hx hb dX5_load_4 (by decide) (fun c4_1 => ?_) (fun c4_1 => ?_)
    · skip
      exact absurd c4_1 (by decide)
    · rw [nI_leI (by omega) (by omega), Nat.not_le] at c4_1
      refine lv_aload_n hx hb dX5_load_7 rfl (lv_at hl 1 rfl) ?_
      refine va_get (D := (dC, dI)) (ci := 5) (v := .ref aon) (C := RX5) (T := TX5) (N := 25) hx hb hts hi5 hown hK hP 0 rfl rfl 14 (by decide) f39 (fun _ h9 => h9) rfl dX5_load_8 ?_
      refine lv_iload_n hx hb dX5_load_11 rfl (lv_at hl 0 rfl) ?_
      refine lv_aload_n hx hb dX5_load_12 rfl (lv_at hl 1 rfl) ?_
      refine va_get (D := (dC, dI)) (ci := 5) (v := .ref asd) (C := RX5) (T := TX5) (N := 25) hx hb hts hi5 hown hK hP 0 rfl rfl 6 (by decide) f20 (fun _ h9 => h9) rfl dX5_load_13 ?_
      refine lv_iconst (v := (nI 4)) hx hb dX5_load_16 (by decide) ?_
      refine lv_iload_n hx hb dX5_load_17 rfl (lv_at hl 2 rfl) ?_
      refine lv_imul hx hb dX5_load_18 ?_
      rw [show (nI 4) * (nI a) = (nI (4 * a)) from pk_mul 4 a]
      refine lv_iload_n hx hb dX5_load_19 rfl (lv_at hl 0 rfl) ?_
      refine lv_iadd hx hb dX5_load_20 ?_
      rw [show (nI (4 * a)) + (nI 1) = (nI (((4 * a)) + 1)) from nI_add ((4 * a)) 1]
      refine va_lald hx hb hK hP 1 0 rfl rfl (vp_in_nI (show (((4 * a)) + 1) < 64 by omega) (by omega)) dX5_load_21 ?_
      rw [show (nI (((4 * a)) + 1)).toNatClampNeg = (((4 * a)) + 1) from nI_clamp (show (((4 * a)) + 1) < 2 ^ 31 by omega)]
      refine va_last hx hb hK hP hD hS 3 0 rfl rfl (vp_in_nI (show 1 < 4 by omega) (by omega)) dX5_load_22 (fun H locs hP hD hS => ?_)
      rw [show (nI 1).toNatClampNeg = 1 from nI_clamp (show 1 < 2 ^ 31 by omega)] at hP hD
      have hP : va_P (dC, dI) vwCl [(om, .inr (5, [.int (nI cd), .int (nI ns), .ref apx, .ref apy, .ref act, .int (nI nb), .ref asd, .ref amv, .ref asl, .ref apl, .ref asw, .int (nI nw), .ref aor, .int (nI nc), .ref aon, .ref atw, .long mx, .long my, .ref aup, .ref alw, .int (nI nm), .long up, .long lo, .long rx, .long ry])), (asd, .inl (cJ, 64, .inr (.inl fsd))), (amv, .inl (cJ, 32, .inr (.inl fmv))), (aon, .inl (cJ, 4, .inr (.inl (vp_updL (vp_updL fon 0 (fsd ((((4 * a)) + 0)))) 1 (fsd ((((4 * a)) + 1))))))), (atw, .inl (cJ, 4, .inr (.inl (vp_updL ftw 0 (fsd ((((4 * b)) + 0)))))))] H := hP
      have hD : va_D A [(om, .inr (5, [.int (nI cd), .int (nI ns), .ref apx, .ref apy, .ref act, .int (nI nb), .ref asd, .ref amv, .ref asl, .ref apl, .ref asw, .int (nI nw), .ref aor, .int (nI nc), .ref aon, .ref atw, .long mx, .long my, .ref aup, .ref alw, .int (nI nm), .long up, .long lo, .long rx, .long ry])), (asd, .inl (cJ, 64, .inr (.inl fsd))), (amv, .inl (cJ, 32, .inr (.inl fmv))), (aon, .inl (cJ, 4, .inr (.inl (vp_updL (vp_updL fon 0 (fsd ((((4 * a)) + 0)))) 1 (fsd ((((4 * a)) + 1))))))), (atw, .inl (cJ, 4, .inr (.inl (vp_updL ftw 0 (fsd ((((4 * b)) + 0)))))))] := hD
      refine lv_aload_n hx hb dX5_load_23 rfl (lv_at hl 1 rfl) ?_
      refine va_get (D := (dC, dI)) (ci := 5) (v := .ref atw) (C := RX5) (T := TX5) (N := 25) hx hb hts hi5 hown hK hP 0 rfl rfl 15 (by decide) f42 (fun _ h9 => h9) rfl dX5_load_24 ?_
      refine lv_iload_n hx hb dX5_load_27 rfl (lv_at hl 0 rfl) ?_
      refine lv_aload_n hx hb dX5_load_28 rfl (lv_at hl 1 rfl) ?_
      refine va_get (D := (dC, dI)) (ci := 5) (v := .ref asd) (C := RX5) (T := TX5) (N := 25) hx hb hts hi5 hown hK hP 0 rfl rfl 6 (by decide) f20 (fun _ h9 => h9) rfl dX5_load_29 ?_
      refine lv_iconst (v := (nI 4)) hx hb dX5_load_32 (by decide) ?_
      refine lv_iload_n hx hb dX5_load_33 rfl (lv_at hl 3 rfl) ?_
      refine lv_imul hx hb dX5_load_34 ?_
      rw [show (nI 4) * (nI b) = (nI (4 * b)) from pk_mul 4 b]
      refine lv_iload_n hx hb dX5_load_35 rfl (lv_at hl 0 rfl) ?_
      refine lv_iadd hx hb dX5_load_36 ?_
      rw [show (nI (4 * b)) + (nI 1) = (nI (((4 * b)) + 1)) from nI_add ((4 * b)) 1]
      refine va_lald hx hb hK hP 1 0 rfl rfl (vp_in_nI (show (((4 * b)) + 1) < 64 by omega) (by omega)) dX5_load_37 ?_
      rw [show (nI (((4 * b)) + 1)).toNatClampNeg = (((4 * b)) + 1) from nI_clamp (show (((4 * b)) + 1) < 2 ^ 31 by omega)]
      refine va_last hx hb hK hP hD hS 4 0 rfl rfl (vp_in_nI (show 1 < 4 by omega) (by omega)) dX5_load_38 (fun H locs hP hD hS => ?_)
      rw [show (nI 1).toNatClampNeg = 1 from nI_clamp (show 1 < 2 ^ 31 by omega)] at hP hD
      have hP : va_P (dC, dI) vwCl [(om, .inr (5, [.int (nI cd), .int (nI ns), .ref apx, .ref apy, .ref act, .int (nI nb), .ref asd, .ref amv, .ref asl, .ref apl, .ref asw, .int (nI nw), .ref aor, .int (nI nc), .ref aon, .ref atw, .long mx, .long my, .ref aup, .ref alw, .int (nI nm), .long up, .long lo, .long rx, .long ry])), (asd, .inl (cJ, 64, .inr (.inl fsd))), (amv, .inl (cJ, 32, .inr (.inl fmv))), (aon, .inl (cJ, 4, .inr (.inl (vp_updL (vp_updL fon 0 (fsd ((((4 * a)) + 0)))) 1 (fsd ((((4 * a)) + 1))))))), (atw, .inl (cJ, 4, .inr (.inl (vp_updL (vp_updL ftw 0 (fsd ((((4 * b)) + 0)))) 1 (fsd ((((4 * b)) + 1)))))))] H := hP
      have hD : va_D A [(om, .inr (5, [.int (nI cd), .int (nI ns), .ref apx, .ref apy, .ref act, .int (nI nb), .ref asd, .ref amv, .ref asl, .ref apl, .ref asw, .int (nI nw), .ref aor, .int (nI nc), .ref aon, .ref atw, .long mx, .long my, .ref aup, .ref alw, .int (nI nm), .long up, .long lo, .long rx, .long ry])), (asd, .inl (cJ, 64, .inr (.inl fsd))), (amv, .inl (cJ, 32, .inr (.inl fmv))), (aon, .inl (cJ, 4, .inr (.inl (vp_updL (vp_updL fon 0 (fsd ((((4 * a)) + 0)))) 1 (fsd ((((4 * a)) + 1))))))), (atw, .inl (cJ, 4, .inr (.inl (vp_updL (vp_updL ftw 0 (fsd ((((4 * b)) + 0)))) 1 (fsd ((((4 * b)) + 1)))))))] := hD
      refine lv_iinc (v := (nI 2)) (lv' := [(3, .int (nI 2)), (0, .ref om), (1, .int (nI a)), (2, .int (nI b))]) hx hb dX5_load_39 hl (k := 0) rfl rfl (by decide) rfl (fun ls hl => ?_)
      refine lv_goto (tgt := 2) hx hb dX5_load_42 (by decide) ?_
      refine lv_iload_n hx hb dX5_load_2 rfl (lv_at hl 0 rfl) ?_
      refine lv_iconst (v := (nI 4)) hx hb dX5_load_3 (by decide) ?_
      refine lv_icmp_ge (tgt := 45) hx hb dX5_load_4 (by decide) (fun c4_2 => ?_) (fun c4_2 => ?_)
      · skip
        exact absurd c4_2 (by decide)
      · rw [nI_leI (by omega) (by omega), Nat.not_le] at c4_2
        refine lv_aload_n hx hb dX5_load_7 rfl (lv_at hl 1 rfl) ?_
        refine va_get (D := (dC, dI)) (ci := 5) (v := .ref aon) (C := RX5) (T := TX5) (N := 25) hx hb hts hi5 hown hK hP 0 rfl rfl 14 (by decide) f39 (fun _ h9 => h9) rfl dX5_load_8 ?_
        refine lv_iload_n hx hb dX5_load_11 rfl (lv_at hl 0 rfl) ?_
        refine lv_aload_n hx hb dX5_load_12 rfl (lv_at hl 1 rfl) ?_
        refine va_get (D := (dC, dI)) (ci := 5) (v := .ref asd) (C := RX5) (T := TX5) (N := 25) hx hb hts hi5 hown hK hP 0 rfl rfl 6 (by decide) f20 (fun _ h9 => h9) rfl dX5_load_13 ?_
        refine lv_iconst (v := (nI 4)) hx hb dX5_load_16 (by decide) ?_
        refine lv_iload_n hx hb dX5_load_17 rfl (lv_at hl 2 rfl) ?_
        refine lv_imul hx hb dX5_load_18 ?_
        rw [show (nI 4) * (nI a) = (nI (4 * a)) from pk_mul 4 a]
        refine lv_iload_n hx hb dX5_load_19 rfl (lv_at hl 0 rfl) ?_
        refine lv_iadd hx hb dX5_load_20 ?_
        rw [show (nI (4 * a)) + (nI 2) = (nI (((4 * a)) + 2)) from nI_add ((4 * a)) 2]
        refine va_lald hx hb hK hP 1 0 rfl rfl (vp_in_nI (show (((4 * a)) + 2) < 64 by omega) (by omega)) dX5_load_21 ?_
        rw [show (nI (((4 * a)) + 2)).toNatClampNeg = (((4 * a)) + 2) from nI_clamp (show (((4 * a)) + 2) < 2 ^ 31 by omega)]
        refine va_last hx hb hK hP hD hS 3 0 rfl rfl (vp_in_nI (show 2 < 4 by omega) (by omega)) dX5_load_22 (fun H locs hP hD hS => ?_)
        rw [show (nI 2).toNatClampNeg = 2 from nI_clamp (show 2 < 2 ^ 31 by omega)] at hP hD
        have hP : va_P (dC, dI) vwCl [(om, .inr (5, [.int (nI cd), .int (nI ns), .ref apx, .ref apy, .ref act, .int (nI nb), .ref asd, .ref amv, .ref asl, .ref apl, .ref asw, .int (nI nw), .ref aor, .int (nI nc), .ref aon, .ref atw, .long mx, .long my, .ref aup, .ref alw, .int (nI nm), .long up, .long lo, .long rx, .long ry])), (asd, .inl (cJ, 64, .inr (.inl fsd))), (amv, .inl (cJ, 32, .inr (.inl fmv))), (aon, .inl (cJ, 4, .inr (.inl (vp_updL (vp_updL (vp_updL fon 0 (fsd ((((4 * a)) + 0)))) 1 (fsd ((((4 * a)) + 1)))) 2 (fsd ((((4 * a)) + 2))))))), (atw, .inl (cJ, 4, .inr (.inl (vp_updL (vp_updL ftw 0 (fsd ((((4 * b)) + 0)))) 1 (fsd ((((4 * b)) + 1)))))))] H := hP
        have hD : va_D A [(om, .inr (5, [.int (nI cd), .int (nI ns), .ref apx, .ref apy, .ref act, .int (nI nb), .ref asd, .ref amv, .ref asl, .ref apl, .ref asw, .int (nI nw), .ref aor, .int (nI nc), .ref aon, .ref atw, .long mx, .long my, .ref aup, .ref alw, .int (nI nm), .long up, .long lo, .long rx, .long ry])), (asd, .inl (cJ, 64, .inr (.inl fsd))), (amv, .inl (cJ, 32, .inr (.inl fmv))), (aon, .inl (cJ, 4, .inr (.inl (vp_updL (vp_updL (vp_updL fon 0 (fsd ((((4 * a)) + 0)))) 1 (fsd ((((4 * a)) + 1)))) 2 (fsd ((((4 * a)) + 2))))))), (atw, .inl (cJ, 4, .inr (.inl (vp_updL (vp_updL ftw 0 (fsd ((((4 * b)) + 0)))) 1 (fsd ((((4 * b)) + 1)))))))] := hD
        refine lv_aload_n hx hb dX5_load_23 rfl (lv_at hl 1 rfl) ?_
        refine va_get (D := (dC, dI)) (ci := 5) (v := .ref atw) (C := RX5) (T := TX5) (N := 25) hx hb hts hi5 hown hK hP 0 rfl rfl 15 (by decide) f42 (fun _ h9 => h9) rfl dX5_load_24 ?_
        refine lv_iload_n hx hb dX5_load_27 rfl (lv_at hl 0 rfl) ?_
        refine lv_aload_n hx hb dX5_load_28 rfl (lv_at hl 1 rfl) ?_
        refine va_get (D := (dC, dI)) (ci := 5) (v := .ref asd) (C := RX5) (T := TX5) (N := 25) hx hb hts hi5 hown hK hP 0 rfl rfl 6 (by decide) f20 (fun _ h9 => h9) rfl dX5_load_29 ?_
        refine lv_iconst (v := (nI 4)) hx hb dX5_load_32 (by decide) ?_
        refine lv_iload_n hx hb dX5_load_33 rfl (lv_at hl 3 rfl) ?_
        refine lv_imul hx hb dX5_load_34 ?_
        rw [show (nI 4) * (nI b) = (nI (4 * b)) from pk_mul 4 b]
        refine lv_iload_n hx hb dX5_load_35 rfl (lv_at hl 0 rfl) ?_
        refine lv_iadd hx hb dX5_load_36 ?_
        rw [show (nI (4 * b)) + (nI 2) = (nI (((4 * b)) + 2)) from nI_add ((4 * b)) 2]
        refine va_lald hx hb hK hP 1 0 rfl rfl (vp_in_nI (show (((4 * b)) + 2) < 64 by omega) (by omega)) dX5_load_37 ?_
        rw [show (nI (((4 * b)) + 2)).toNatClampNeg = (((4 * b)) + 2) from nI_clamp (show (((4 * b)) + 2) < 2 ^ 31 by omega)]
        refine va_last hx hb hK hP hD hS 4 0 rfl rfl (vp_in_nI (show 2 < 4 by omega) (by omega)) dX5_load_38 (fun H locs hP hD hS => ?_)
        rw [show (nI 2).toNatClampNeg = 2 from nI_clamp (show 2 < 2 ^ 31 by omega)] at hP hD
        have hP : va_P (dC, dI) vwCl [(om, .inr (5, [.int (nI cd), .int (nI ns), .ref apx, .ref apy, .ref act, .int (nI nb), .ref asd, .ref amv, .ref asl, .ref apl, .ref asw, .int (nI nw), .ref aor, .int (nI nc), .ref aon, .ref atw, .long mx, .long my, .ref aup, .ref alw, .int (nI nm), .long up, .long lo, .long rx, .long ry])), (asd, .inl (cJ, 64, .inr (.inl fsd))), (amv, .inl (cJ, 32, .inr (.inl fmv))), (aon, .inl (cJ, 4, .inr (.inl (vp_updL (vp_updL (vp_updL fon 0 (fsd ((((4 * a)) + 0)))) 1 (fsd ((((4 * a)) + 1)))) 2 (fsd ((((4 * a)) + 2))))))), (atw, .inl (cJ, 4, .inr (.inl (vp_updL (vp_updL (vp_updL ftw 0 (fsd ((((4 * b)) + 0)))) 1 (fsd ((((4 * b)) + 1)))) 2 (fsd ((((4 * b)) + 2)))))))] H := hP
        have hD : va_D A [(om, .inr (5, [.int (nI cd), .int (nI ns), .ref apx, .ref apy, .ref act, .int (nI nb), .ref asd, .ref amv, .ref asl, .ref apl, .ref asw, .int (nI nw), .ref aor, .int (nI nc), .ref aon, .ref atw, .long mx, .long my, .ref aup, .ref alw, .int (nI nm), .long up, .long lo, .long rx, .long ry])), (asd, .inl (cJ, 64, .inr (.inl fsd))), (amv, .inl (cJ, 32, .inr (.inl fmv))), (aon, .inl (cJ, 4, .inr (.inl (vp_updL (vp_updL (vp_updL fon 0 (fsd ((((4 * a)) + 0)))) 1 (fsd ((((4 * a)) + 1)))) 2 (fsd ((((4 * a)) + 2))))))), (atw, .inl (cJ, 4, .inr (.inl (vp_updL (vp_updL (vp_updL ftw 0 (fsd ((((4 * b)) + 0)))) 1 (fsd ((((4 * b)) + 1)))) 2 (fsd ((((4 * b)) + 2)))))))] := hD
        refine lv_iinc (v := (nI 3)) (lv' := [(3, .int (nI 3)), (0, .ref om), (1, .int (nI a)), (2, .int (nI b))]) hx hb dX5_load_39 hl (k := 0) rfl rfl (by decide) rfl (fun ls hl => ?_)
        refine lv_goto (tgt := 2) hx hb dX5_load_42 (by decide) ?_
        refine lv_iload_n hx hb dX5_load_2 rfl (lv_at hl 0 rfl) ?_
        refine lv_iconst (v := (nI 4)) hx hb dX5_load_3 (by decide) ?_
        refine lv_icmp_ge (tgt := 45) hx hb dX5_load_4 (by decide) (fun c4_3 => ?_) (fun c4_3 => ?_)
        · skip
          exact absurd c4_3 (by decide)
        · rw [nI_leI (by omega) (by omega), Nat.not_le] at c4_3
          refine lv_aload_n hx hb dX5_load_7 rfl (lv_at hl 1 rfl) ?_
          refine va_get (D := (dC, dI)) (ci := 5) (v := .ref aon) (C := RX5) (T := TX5) (N := 25) hx hb hts hi5 hown hK hP 0 rfl rfl 14 (by decide) f39 (fun _ h9 => h9) rfl dX5_load_8 ?_
          refine lv_iload_n hx hb dX5_load_11 rfl (lv_at hl 0 rfl) ?_
          refine lv_aload_n hx hb dX5_load_12 rfl (lv_at hl 1 rfl) ?_
          refine va_get (D := (dC, dI)) (ci := 5) (v := .ref asd) (C := RX5) (T := TX5) (N := 25) hx hb hts hi5 hown hK hP 0 rfl rfl 6 (by decide) f20 (fun _ h9 => h9) rfl dX5_load_13 ?_
          refine lv_iconst (v := (nI 4)) hx hb dX5_load_16 (by decide) ?_
          refine lv_iload_n hx hb dX5_load_17 rfl (lv_at hl 2 rfl) ?_
          refine lv_imul hx hb dX5_load_18 ?_
          rw [show (nI 4) * (nI a) = (nI (4 * a)) from pk_mul 4 a]
          refine lv_iload_n hx hb dX5_load_19 rfl (lv_at hl 0 rfl) ?_
          refine lv_iadd hx hb dX5_load_20 ?_
          rw [show (nI (4 * a)) + (nI 3) = (nI (((4 * a)) + 3)) from nI_add ((4 * a)) 3]
          refine va_lald hx hb hK hP 1 0 rfl rfl (vp_in_nI (show (((4 * a)) + 3) < 64 by omega) (by omega)) dX5_load_21 ?_
          rw [show (nI (((4 * a)) + 3)).toNatClampNeg = (((4 * a)) + 3) from nI_clamp (show (((4 * a)) + 3) < 2 ^ 31 by omega)]
          refine va_last hx hb hK hP hD hS 3 0 rfl rfl (vp_in_nI (show 3 < 4 by omega) (by omega)) dX5_load_22 (fun H locs hP hD hS => ?_)
          rw [show (nI 3).toNatClampNeg = 3 from nI_clamp (show 3 < 2 ^ 31 by omega)] at hP hD
          have hP : va_P (dC, dI) vwCl [(om, .inr (5, [.int (nI cd), .int (nI ns), .ref apx, .ref apy, .ref act, .int (nI nb), .ref asd, .ref amv, .ref asl, .ref apl, .ref asw, .int (nI nw), .ref aor, .int (nI nc), .ref aon, .ref atw, .long mx, .long my, .ref aup, .ref alw, .int (nI nm), .long up, .long lo, .long rx, .long ry])), (asd, .inl (cJ, 64, .inr (.inl fsd))), (amv, .inl (cJ, 32, .inr (.inl fmv))), (aon, .inl (cJ, 4, .inr (.inl (vp_updL (vp_updL (vp_updL (vp_updL fon 0 (fsd ((((4 * a)) + 0)))) 1 (fsd ((((4 * a)) + 1)))) 2 (fsd ((((4 * a)) + 2)))) 3 (fsd ((((4 * a)) + 3))))))), (atw, .inl (cJ, 4, .inr (.inl (vp_updL (vp_updL (vp_updL ftw 0 (fsd ((((4 * b)) + 0)))) 1 (fsd ((((4 * b)) + 1)))) 2 (fsd ((((4 * b)) + 2)))))))] H := hP
          have hD : va_D A [(om, .inr (5, [.int (nI cd), .int (nI ns), .ref apx, .ref apy, .ref act, .int (nI nb), .ref asd, .ref amv, .ref asl, .ref apl, .ref asw, .int (nI nw), .ref aor, .int (nI nc), .ref aon, .ref atw, .long mx, .long my, .ref aup, .ref alw, .int (nI nm), .long up, .long lo, .long rx, .long ry])), (asd, .inl (cJ, 64, .inr (.inl fsd))), (amv, .inl (cJ, 32, .inr (.inl fmv))), (aon, .inl (cJ, 4, .inr (.inl (vp_updL (vp_updL (vp_updL (vp_updL fon 0 (fsd ((((4 * a)) + 0)))) 1 (fsd ((((4 * a)) + 1)))) 2 (fsd ((((4 * a)) + 2)))) 3 (fsd ((((4 * a)) + 3))))))), (atw, .inl (cJ, 4, .inr (.inl (vp_updL (vp_updL (vp_updL ftw 0 (fsd ((((4 * b)) + 0)))) 1 (fsd ((((4 * b)) + 1)))) 2 (fsd ((((4 * b)) + 2)))))))] := hD
          refine lv_aload_n hx hb dX5_load_23 rfl (lv_at hl 1 rfl) ?_
          refine va_get (D := (dC, dI)) (ci := 5) (v := .ref atw) (C := RX5) (T := TX5) (N := 25) hx hb hts hi5 hown hK hP 0 rfl rfl 15 (by decide) f42 (fun _ h9 => h9) rfl dX5_load_24 ?_
          refine lv_iload_n hx hb dX5_load_27 rfl (lv_at hl 0 rfl) ?_
          refine lv_aload_n hx hb dX5_load_28 rfl (lv_at hl 1 rfl) ?_
          refine va_get (D := (dC, dI)) (ci := 5) (v := .ref asd) (C := RX5) (T := TX5) (N := 25) hx hb hts hi5 hown hK hP 0 rfl rfl 6 (by decide) f20 (fun _ h9 => h9) rfl dX5_load_29 ?_
          refine lv_iconst (v := (nI 4)) hx hb dX5_load_32 (by decide) ?_
          refine lv_iload_n hx hb dX5_load_33 rfl (lv_at hl 3 rfl) ?_
          refine lv_imul hx hb dX5_load_34 ?_
          rw [show (nI 4) * (nI b) = (nI (4 * b)) from pk_mul 4 b]
          refine lv_iload_n hx hb dX5_load_35 rfl (lv_at hl 0 rfl) ?_
          refine lv_iadd hx hb dX5_load_36 ?_
          rw [show (nI (4 * b)) + (nI 3) = (nI (((4 * b)) + 3)) from nI_add ((4 * b)) 3]
          refine va_lald hx hb hK hP 1 0 rfl rfl (vp_in_nI (show (((4 * b)) + 3) < 64 by omega) (by omega)) dX5_load_37 ?_
          rw [show (nI (((4 * b)) + 3)).toNatClampNeg = (((4 * b)) + 3) from nI_clamp (show (((4 * b)) + 3) < 2 ^ 31 by omega)]
          refine va_last hx hb hK hP hD hS 4 0 rfl rfl (vp_in_nI (show 3 < 4 by omega) (by omega)) dX5_load_38 (fun H locs hP hD hS => ?_)
          rw [show (nI 3).toNatClampNeg = 3 from nI_clamp (show 3 < 2 ^ 31 by omega)] at hP hD
          have hP : va_P (dC, dI) vwCl [(om, .inr (5, [.int (nI cd), .int (nI ns), .ref apx, .ref apy, .ref act, .int (nI nb), .ref asd, .ref amv, .ref asl, .ref apl, .ref asw, .int (nI nw), .ref aor, .int (nI nc), .ref aon, .ref atw, .long mx, .long my, .ref aup, .ref alw, .int (nI nm), .long up, .long lo, .long rx, .long ry])), (asd, .inl (cJ, 64, .inr (.inl fsd))), (amv, .inl (cJ, 32, .inr (.inl fmv))), (aon, .inl (cJ, 4, .inr (.inl (vp_updL (vp_updL (vp_updL (vp_updL fon 0 (fsd ((((4 * a)) + 0)))) 1 (fsd ((((4 * a)) + 1)))) 2 (fsd ((((4 * a)) + 2)))) 3 (fsd ((((4 * a)) + 3))))))), (atw, .inl (cJ, 4, .inr (.inl (vp_updL (vp_updL (vp_updL (vp_updL ftw 0 (fsd ((((4 * b)) + 0)))) 1 (fsd ((((4 * b)) + 1)))) 2 (fsd ((((4 * b)) + 2)))) 3 (fsd ((((4 * b)) + 3)))))))] H := hP
          have hD : va_D A [(om, .inr (5, [.int (nI cd), .int (nI ns), .ref apx, .ref apy, .ref act, .int (nI nb), .ref asd, .ref amv, .ref asl, .ref apl, .ref asw, .int (nI nw), .ref aor, .int (nI nc), .ref aon, .ref atw, .long mx, .long my, .ref aup, .ref alw, .int (nI nm), .long up, .long lo, .long rx, .long ry])), (asd, .inl (cJ, 64, .inr (.inl fsd))), (amv, .inl (cJ, 32, .inr (.inl fmv))), (aon, .inl (cJ, 4, .inr (.inl (vp_updL (vp_updL (vp_updL (vp_updL fon 0 (fsd ((((4 * a)) + 0)))) 1 (fsd ((((4 * a)) + 1)))) 2 (fsd ((((4 * a)) + 2)))) 3 (fsd ((((4 * a)) + 3))))))), (atw, .inl (cJ, 4, .inr (.inl (vp_updL (vp_updL (vp_updL (vp_updL ftw 0 (fsd ((((4 * b)) + 0)))) 1 (fsd ((((4 * b)) + 1)))) 2 (fsd ((((4 * b)) + 2)))) 3 (fsd ((((4 * b)) + 3)))))))] := hD
          refine lv_iinc (v := (nI 4)) (lv' := [(3, .int (nI 4)), (0, .ref om), (1, .int (nI a)), (2, .int (nI b))]) hx hb dX5_load_39 hl (k := 0) rfl rfl (by decide) rfl (fun ls hl => ?_)
          refine lv_goto (tgt := 2) hx hb dX5_load_42 (by decide) ?_
          refine lv_iload_n hx hb dX5_load_2 rfl (lv_at hl 0 rfl) ?_
          refine lv_iconst (v := (nI 4)) hx hb dX5_load_3 (by decide) ?_
          refine lv_icmp_ge (tgt := 45) hx hb dX5_load_4 (by decide) (fun c4_4 => ?_) (fun c4_4 => ?_)
          · rw [nI_leI (by omega) (by omega)] at c4_4
            refine lv_aload_n hx hb dX5_load_45 rfl (lv_at hl 1 rfl) ?_
            refine lv_aload_n hx hb dX5_load_46 rfl (lv_at hl 1 rfl) ?_
            refine va_get (D := (dC, dI)) (ci := 5) (v := .ref amv) (C := RX5) (T := TX5) (N := 25) hx hb hts hi5 hown hK hP 0 rfl rfl 7 (by decide) f23 (fun _ h9 => h9) rfl dX5_load_47 ?_
            refine lv_iconst (v := (nI 2)) hx hb dX5_load_50 (by decide) ?_
            refine lv_iload_n hx hb dX5_load_51 rfl (lv_at hl 2 rfl) ?_
            refine lv_imul hx hb dX5_load_52 ?_
            rw [show (nI 2) * (nI a) = (nI (2 * a)) from pk_mul 2 a]
            refine va_lald hx hb hK hP 2 0 rfl rfl (vp_in_nI (show (2 * a) < 32 by omega) (by omega)) dX5_load_53 ?_
            rw [show (nI (2 * a)).toNatClampNeg = (2 * a) from nI_clamp (show (2 * a) < 2 ^ 31 by omega)]
            refine lv_aload_n hx hb dX5_load_54 rfl (lv_at hl 1 rfl) ?_
            refine va_get (D := (dC, dI)) (ci := 5) (v := .ref amv) (C := RX5) (T := TX5) (N := 25) hx hb hts hi5 hown hK hP 0 rfl rfl 7 (by decide) f23 (fun _ h9 => h9) rfl dX5_load_55 ?_
            refine lv_iconst (v := (nI 2)) hx hb dX5_load_58 (by decide) ?_
            refine lv_iload_n hx hb dX5_load_59 rfl (lv_at hl 3 rfl) ?_
            refine lv_imul hx hb dX5_load_60 ?_
            rw [show (nI 2) * (nI b) = (nI (2 * b)) from pk_mul 2 b]
            refine va_lald hx hb hK hP 2 0 rfl rfl (vp_in_nI (show (2 * b) < 32 by omega) (by omega)) dX5_load_61 ?_
            rw [show (nI (2 * b)).toNatClampNeg = (2 * b) from nI_clamp (show (2 * b) < 2 ^ 31 by omega)]
            refine lv_lsub hx hb dX5_load_62 ?_
            refine va_put (D := (dC, dI)) (ci := 5) (v := .long ((fmv ((2 * a))) - (fmv ((2 * b))))) (ty := .long) (C := RX5) (T := TX5) (N := 25) hx hb hts hi5 tyX5 tyX5_ok nmX5 hown hK hP hD hS 0 rfl rfl 16 (by decide) f128 (fun _ h9 => h9) rfl (by decide +kernel) rfl rfl (Nat.le_of_ble_eq_true rfl) dX5_load_63 (fun H locs hP hD hS => ?_)
            have hP : va_P (dC, dI) vwCl [(om, .inr (5, [.int (nI cd), .int (nI ns), .ref apx, .ref apy, .ref act, .int (nI nb), .ref asd, .ref amv, .ref asl, .ref apl, .ref asw, .int (nI nw), .ref aor, .int (nI nc), .ref aon, .ref atw, .long ((fmv ((2 * a))) - (fmv ((2 * b)))), .long my, .ref aup, .ref alw, .int (nI nm), .long up, .long lo, .long rx, .long ry])), (asd, .inl (cJ, 64, .inr (.inl fsd))), (amv, .inl (cJ, 32, .inr (.inl fmv))), (aon, .inl (cJ, 4, .inr (.inl (vp_updL (vp_updL (vp_updL (vp_updL fon 0 (fsd ((((4 * a)) + 0)))) 1 (fsd ((((4 * a)) + 1)))) 2 (fsd ((((4 * a)) + 2)))) 3 (fsd ((((4 * a)) + 3))))))), (atw, .inl (cJ, 4, .inr (.inl (vp_updL (vp_updL (vp_updL (vp_updL ftw 0 (fsd ((((4 * b)) + 0)))) 1 (fsd ((((4 * b)) + 1)))) 2 (fsd ((((4 * b)) + 2)))) 3 (fsd ((((4 * b)) + 3)))))))] H := hP
            have hD : va_D A [(om, .inr (5, [.int (nI cd), .int (nI ns), .ref apx, .ref apy, .ref act, .int (nI nb), .ref asd, .ref amv, .ref asl, .ref apl, .ref asw, .int (nI nw), .ref aor, .int (nI nc), .ref aon, .ref atw, .long ((fmv ((2 * a))) - (fmv ((2 * b)))), .long my, .ref aup, .ref alw, .int (nI nm), .long up, .long lo, .long rx, .long ry])), (asd, .inl (cJ, 64, .inr (.inl fsd))), (amv, .inl (cJ, 32, .inr (.inl fmv))), (aon, .inl (cJ, 4, .inr (.inl (vp_updL (vp_updL (vp_updL (vp_updL fon 0 (fsd ((((4 * a)) + 0)))) 1 (fsd ((((4 * a)) + 1)))) 2 (fsd ((((4 * a)) + 2)))) 3 (fsd ((((4 * a)) + 3))))))), (atw, .inl (cJ, 4, .inr (.inl (vp_updL (vp_updL (vp_updL (vp_updL ftw 0 (fsd ((((4 * b)) + 0)))) 1 (fsd ((((4 * b)) + 1)))) 2 (fsd ((((4 * b)) + 2)))) 3 (fsd ((((4 * b)) + 3)))))))] := hD
            refine lv_aload_n hx hb dX5_load_66 rfl (lv_at hl 1 rfl) ?_
            refine lv_aload_n hx hb dX5_load_67 rfl (lv_at hl 1 rfl) ?_
            refine va_get (D := (dC, dI)) (ci := 5) (v := .ref amv) (C := RX5) (T := TX5) (N := 25) hx hb hts hi5 hown hK hP 0 rfl rfl 7 (by decide) f23 (fun _ h9 => h9) rfl dX5_load_68 ?_
            refine lv_iconst (v := (nI 2)) hx hb dX5_load_71 (by decide) ?_
            refine lv_iload_n hx hb dX5_load_72 rfl (lv_at hl 2 rfl) ?_
            refine lv_imul hx hb dX5_load_73 ?_
            rw [show (nI 2) * (nI a) = (nI (2 * a)) from pk_mul 2 a]
            refine lv_iconst (v := (nI 1)) hx hb dX5_load_74 (by decide) ?_
            refine lv_iadd hx hb dX5_load_75 ?_
            rw [show (nI (2 * a)) + (nI 1) = (nI (((2 * a)) + 1)) from nI_add ((2 * a)) 1]
            refine va_lald hx hb hK hP 2 0 rfl rfl (vp_in_nI (show (((2 * a)) + 1) < 32 by omega) (by omega)) dX5_load_76 ?_
            rw [show (nI (((2 * a)) + 1)).toNatClampNeg = (((2 * a)) + 1) from nI_clamp (show (((2 * a)) + 1) < 2 ^ 31 by omega)]
            refine lv_aload_n hx hb dX5_load_77 rfl (lv_at hl 1 rfl) ?_
            refine va_get (D := (dC, dI)) (ci := 5) (v := .ref amv) (C := RX5) (T := TX5) (N := 25) hx hb hts hi5 hown hK hP 0 rfl rfl 7 (by decide) f23 (fun _ h9 => h9) rfl dX5_load_78 ?_
            refine lv_iconst (v := (nI 2)) hx hb dX5_load_81 (by decide) ?_
            refine lv_iload_n hx hb dX5_load_82 rfl (lv_at hl 3 rfl) ?_
            refine lv_imul hx hb dX5_load_83 ?_
            rw [show (nI 2) * (nI b) = (nI (2 * b)) from pk_mul 2 b]
            refine lv_iconst (v := (nI 1)) hx hb dX5_load_84 (by decide) ?_
            refine lv_iadd hx hb dX5_load_85 ?_
            rw [show (nI (2 * b)) + (nI 1) = (nI (((2 * b)) + 1)) from nI_add ((2 * b)) 1]
            refine va_lald hx hb hK hP 2 0 rfl rfl (vp_in_nI (show (((2 * b)) + 1) < 32 by omega) (by omega)) dX5_load_86 ?_
            rw [show (nI (((2 * b)) + 1)).toNatClampNeg = (((2 * b)) + 1) from nI_clamp (show (((2 * b)) + 1) < 2 ^ 31 by omega)]
            refine lv_lsub hx hb dX5_load_87 ?_
            refine va_put (D := (dC, dI)) (ci := 5) (v := .long ((fmv ((((2 * a)) + 1))) - (fmv ((((2 * b)) + 1))))) (ty := .long) (C := RX5) (T := TX5) (N := 25) hx hb hts hi5 tyX5 tyX5_ok nmX5 hown hK hP hD hS 0 rfl rfl 17 (by decide) f132 (fun _ h9 => h9) rfl (by decide +kernel) rfl rfl (Nat.le_of_ble_eq_true rfl) dX5_load_88 (fun H locs hP hD hS => ?_)
            have hP : va_P (dC, dI) vwCl [(om, .inr (5, [.int (nI cd), .int (nI ns), .ref apx, .ref apy, .ref act, .int (nI nb), .ref asd, .ref amv, .ref asl, .ref apl, .ref asw, .int (nI nw), .ref aor, .int (nI nc), .ref aon, .ref atw, .long ((fmv ((2 * a))) - (fmv ((2 * b)))), .long ((fmv ((((2 * a)) + 1))) - (fmv ((((2 * b)) + 1)))), .ref aup, .ref alw, .int (nI nm), .long up, .long lo, .long rx, .long ry])), (asd, .inl (cJ, 64, .inr (.inl fsd))), (amv, .inl (cJ, 32, .inr (.inl fmv))), (aon, .inl (cJ, 4, .inr (.inl (vp_updL (vp_updL (vp_updL (vp_updL fon 0 (fsd ((((4 * a)) + 0)))) 1 (fsd ((((4 * a)) + 1)))) 2 (fsd ((((4 * a)) + 2)))) 3 (fsd ((((4 * a)) + 3))))))), (atw, .inl (cJ, 4, .inr (.inl (vp_updL (vp_updL (vp_updL (vp_updL ftw 0 (fsd ((((4 * b)) + 0)))) 1 (fsd ((((4 * b)) + 1)))) 2 (fsd ((((4 * b)) + 2)))) 3 (fsd ((((4 * b)) + 3)))))))] H := hP
            have hD : va_D A [(om, .inr (5, [.int (nI cd), .int (nI ns), .ref apx, .ref apy, .ref act, .int (nI nb), .ref asd, .ref amv, .ref asl, .ref apl, .ref asw, .int (nI nw), .ref aor, .int (nI nc), .ref aon, .ref atw, .long ((fmv ((2 * a))) - (fmv ((2 * b)))), .long ((fmv ((((2 * a)) + 1))) - (fmv ((((2 * b)) + 1)))), .ref aup, .ref alw, .int (nI nm), .long up, .long lo, .long rx, .long ry])), (asd, .inl (cJ, 64, .inr (.inl fsd))), (amv, .inl (cJ, 32, .inr (.inl fmv))), (aon, .inl (cJ, 4, .inr (.inl (vp_updL (vp_updL (vp_updL (vp_updL fon 0 (fsd ((((4 * a)) + 0)))) 1 (fsd ((((4 * a)) + 1)))) 2 (fsd ((((4 * a)) + 2)))) 3 (fsd ((((4 * a)) + 3))))))), (atw, .inl (cJ, 4, .inr (.inl (vp_updL (vp_updL (vp_updL (vp_updL ftw 0 (fsd ((((4 * b)) + 0)))) 1 (fsd ((((4 * b)) + 1)))) 2 (fsd ((((4 * b)) + 2)))) 3 (fsd ((((4 * b)) + 3)))))))] := hD
            exact kEv hx hb hr hlocks hP hK hD hS dX5_load_91
          · skip
            exact absurd c4_4 (by decide)

set_option maxHeartbeats 4000000 in
set_option maxRecDepth 100000 in
theorem tX5_loadTile (l : Launch) (dC : Nat → ClassId) (dI : Nat → Nat → Nat) (cJ cI cZ : ClassId) (om cd ns apx apy act nb asd amv asl apl asw nw aor nc aon atw aup alw nm : Nat) (mx my up lo rx ry : Int64) (fon : Nat → Int64) (ftw : Nat → Int64) (i j : Nat) (x y w h : Int64)  : MMv l yX5_loadTile wsX5_loadTile { frames := 0, cells := 0, slots := 0, locals := 0 } [.ref om, .int (nI i), .int (nI j), .long x, .long y, .long w, .long h] (dC, dI) [(om, .inr (5, [.int (nI cd), .int (nI ns), .ref apx, .ref apy, .ref act, .int (nI nb), .ref asd, .ref amv, .ref asl, .ref apl, .ref asw, .int (nI nw), .ref aor, .int (nI nc), .ref aon, .ref atw, .long mx, .long my, .ref aup, .ref alw, .int (nI nm), .long up, .long lo, .long rx, .long ry])), (aon, .inl (cJ, 4, .inr (.inl fon))), (atw, .inl (cJ, 4, .inr (.inl ftw)))] [(om, .inr (5, [.int (nI cd), .int (nI ns), .ref apx, .ref apy, .ref act, .int (nI nb), .ref asd, .ref amv, .ref asl, .ref apl, .ref asw, .int (nI nw), .ref aor, .int (nI nc), .ref aon, .ref atw, .long 0, .long 0, .ref aup, .ref alw, .int (nI nm), .long up, .long lo, .long rx, .long ry])), (aon, .inl (cJ, 4, .inr (.inl (mFour fon x y (x + w) (y + h))))), (atw, .inl (cJ, 4, .inr (.inl (mFour ftw (nI (16 * i)).toInt64 (nI (16 * j)).toInt64 (nI ((16 * i) + 16)).toInt64 (nI ((16 * j) + 16)).toInt64))))] [(cJ, .long), (cI, .int), (cZ, .boolean)] := by
  intro sz
  refine kOf (cc := cX5_loadTile) (maxL := 11) (ret := none) (by decide) rfl (Nat.le_of_ble_eq_true rfl) ?_
  intro p e s m below meth c hx hb hr hml hts hown hlocks hB ls hl
  obtain ⟨hsz, hP, hK, hD0⟩ := hB
  subst hsz
  have hD := hD0.self (sz := s.heap.size)
  generalize hAe : va_A [(om, .inr (5, [.int (nI cd), .int (nI ns), .ref apx, .ref apy, .ref act, .int (nI nb), .ref asd, .ref amv, .ref asl, .ref apl, .ref asw, .int (nI nw), .ref aor, .int (nI nc), .ref aon, .ref atw, .long mx, .long my, .ref aup, .ref alw, .int (nI nm), .long up, .long lo, .long rx, .long ry])), (aon, .inl (cJ, 4, .inr (.inl fon))), (atw, .inl (cJ, 4, .inr (.inl ftw)))] s.heap.size = A at hD ⊢
  have hA : ∀ q : Nat, s.heap.size ≤ q → A q := fun q h => by rw [← hAe]; exact Or.inr h
  have hS : va_S A s.heap s.heap [] := va_S.rf
  have hl : lv_has ls 11 [(0, .ref om), (1, .int (nI i)), (2, .int (nI j)), (3, .long x), (5, .long y), (7, .long w), (9, .long h)] := hl
  have hi5 : ∀ w ∈ u_ws RX5 TX5 25, w ∈ wsX5_loadTile := by decide +kernel
  have f39 := hts (.fieldLink RX5 39 "SweptBoxesModel" "one" "[J") (by decide +kernel)
  have f42 := hts (.fieldLink RX5 42 "SweptBoxesModel" "two" "[J") (by decide +kernel)
  have f128 := hts (.fieldLink RX5 128 "SweptBoxesModel" "mx" "J") (by decide +kernel)
  have f132 := hts (.fieldLink RX5 132 "SweptBoxesModel" "my" "J") (by decide +kernel)
  refine lv_aload_n hx hb dX5_loadTile_0 rfl (lv_at hl 0 rfl) ?_
  refine va_get (D := (dC, dI)) (ci := 5) (v := .ref aon) (C := RX5) (T := TX5) (N := 25) hx hb hts hi5 hown hK hP 0 rfl rfl 14 (by decide) f39 (fun _ h9 => h9) rfl dX5_loadTile_1 ?_
  refine lv_iconst (v := (nI 0)) hx hb dX5_loadTile_4 (by decide) ?_
  refine lv_lload_n hx hb dX5_loadTile_5 rfl (lv_at hl 3 rfl) ?_
  refine va_last hx hb hK hP hD hS 1 0 rfl rfl (vp_in_nI (show 0 < 4 by omega) (by omega)) dX5_loadTile_6 (fun H locs hP hD hS => ?_)
  rw [show (nI 0).toNatClampNeg = 0 from nI_clamp (show 0 < 2 ^ 31 by omega)] at hP hD
  have hP : va_P (dC, dI) vwCl [(om, .inr (5, [.int (nI cd), .int (nI ns), .ref apx, .ref apy, .ref act, .int (nI nb), .ref asd, .ref amv, .ref asl, .ref apl, .ref asw, .int (nI nw), .ref aor, .int (nI nc), .ref aon, .ref atw, .long mx, .long my, .ref aup, .ref alw, .int (nI nm), .long up, .long lo, .long rx, .long ry])), (aon, .inl (cJ, 4, .inr (.inl (vp_updL fon 0 x)))), (atw, .inl (cJ, 4, .inr (.inl ftw)))] H := hP
  have hD : va_D A [(om, .inr (5, [.int (nI cd), .int (nI ns), .ref apx, .ref apy, .ref act, .int (nI nb), .ref asd, .ref amv, .ref asl, .ref apl, .ref asw, .int (nI nw), .ref aor, .int (nI nc), .ref aon, .ref atw, .long mx, .long my, .ref aup, .ref alw, .int (nI nm), .long up, .long lo, .long rx, .long ry])), (aon, .inl (cJ, 4, .inr (.inl (vp_updL fon 0 x)))), (atw, .inl (cJ, 4, .inr (.inl ftw)))] := hD
  refine lv_aload_n hx hb dX5_loadTile_7 rfl (lv_at hl 0 rfl) ?_
  refine va_get (D := (dC, dI)) (ci := 5) (v := .ref aon) (C := RX5) (T := TX5) (N := 25) hx hb hts hi5 hown hK hP 0 rfl rfl 14 (by decide) f39 (fun _ h9 => h9) rfl dX5_loadTile_8 ?_
  refine lv_iconst (v := (nI 1)) hx hb dX5_loadTile_11 (by decide) ?_
  refine lv_lload hx hb dX5_loadTile_12 (lv_at hl 4 rfl) ?_
  refine va_last hx hb hK hP hD hS 1 0 rfl rfl (vp_in_nI (show 1 < 4 by omega) (by omega)) dX5_loadTile_14 (fun H locs hP hD hS => ?_)
  rw [show (nI 1).toNatClampNeg = 1 from nI_clamp (show 1 < 2 ^ 31 by omega)] at hP hD
  have hP : va_P (dC, dI) vwCl [(om, .inr (5, [.int (nI cd), .int (nI ns), .ref apx, .ref apy, .ref act, .int (nI nb), .ref asd, .ref amv, .ref asl, .ref apl, .ref asw, .int (nI nw), .ref aor, .int (nI nc), .ref aon, .ref atw, .long mx, .long my, .ref aup, .ref alw, .int (nI nm), .long up, .long lo, .long rx, .long ry])), (aon, .inl (cJ, 4, .inr (.inl (vp_updL (vp_updL fon 0 x) 1 y)))), (atw, .inl (cJ, 4, .inr (.inl ftw)))] H := hP
  have hD : va_D A [(om, .inr (5, [.int (nI cd), .int (nI ns), .ref apx, .ref apy, .ref act, .int (nI nb), .ref asd, .ref amv, .ref asl, .ref apl, .ref asw, .int (nI nw), .ref aor, .int (nI nc), .ref aon, .ref atw, .long mx, .long my, .ref aup, .ref alw, .int (nI nm), .long up, .long lo, .long rx, .long ry])), (aon, .inl (cJ, 4, .inr (.inl (vp_updL (vp_updL fon 0 x) 1 y)))), (atw, .inl (cJ, 4, .inr (.inl ftw)))] := hD
  refine lv_aload_n hx hb dX5_loadTile_15 rfl (lv_at hl 0 rfl) ?_
  refine va_get (D := (dC, dI)) (ci := 5) (v := .ref aon) (C := RX5) (T := TX5) (N := 25) hx hb hts hi5 hown hK hP 0 rfl rfl 14 (by decide) f39 (fun _ h9 => h9) rfl dX5_loadTile_16 ?_
  refine lv_iconst (v := (nI 2)) hx hb dX5_loadTile_19 (by decide) ?_
  refine lv_lload_n hx hb dX5_loadTile_20 rfl (lv_at hl 3 rfl) ?_
  refine lv_lload hx hb dX5_loadTile_21 (lv_at hl 5 rfl) ?_
  refine lv_ladd hx hb dX5_loadTile_23 ?_
  refine va_last hx hb hK hP hD hS 1 0 rfl rfl (vp_in_nI (show 2 < 4 by omega) (by omega)) dX5_loadTile_24 (fun H locs hP hD hS => ?_)
  rw [show (nI 2).toNatClampNeg = 2 from nI_clamp (show 2 < 2 ^ 31 by omega)] at hP hD
  have hP : va_P (dC, dI) vwCl [(om, .inr (5, [.int (nI cd), .int (nI ns), .ref apx, .ref apy, .ref act, .int (nI nb), .ref asd, .ref amv, .ref asl, .ref apl, .ref asw, .int (nI nw), .ref aor, .int (nI nc), .ref aon, .ref atw, .long mx, .long my, .ref aup, .ref alw, .int (nI nm), .long up, .long lo, .long rx, .long ry])), (aon, .inl (cJ, 4, .inr (.inl (vp_updL (vp_updL (vp_updL fon 0 x) 1 y) 2 (x + w))))), (atw, .inl (cJ, 4, .inr (.inl ftw)))] H := hP
  have hD : va_D A [(om, .inr (5, [.int (nI cd), .int (nI ns), .ref apx, .ref apy, .ref act, .int (nI nb), .ref asd, .ref amv, .ref asl, .ref apl, .ref asw, .int (nI nw), .ref aor, .int (nI nc), .ref aon, .ref atw, .long mx, .long my, .ref aup, .ref alw, .int (nI nm), .long up, .long lo, .long rx, .long ry])), (aon, .inl (cJ, 4, .inr (.inl (vp_updL (vp_updL (vp_updL fon 0 x) 1 y) 2 (x + w))))), (atw, .inl (cJ, 4, .inr (.inl ftw)))] := hD
  refine lv_aload_n hx hb dX5_loadTile_25 rfl (lv_at hl 0 rfl) ?_
  refine va_get (D := (dC, dI)) (ci := 5) (v := .ref aon) (C := RX5) (T := TX5) (N := 25) hx hb hts hi5 hown hK hP 0 rfl rfl 14 (by decide) f39 (fun _ h9 => h9) rfl dX5_loadTile_26 ?_
  refine lv_iconst (v := (nI 3)) hx hb dX5_loadTile_29 (by decide) ?_
  refine lv_lload hx hb dX5_loadTile_30 (lv_at hl 4 rfl) ?_
  refine lv_lload hx hb dX5_loadTile_32 (lv_at hl 6 rfl) ?_
  refine lv_ladd hx hb dX5_loadTile_34 ?_
  refine va_last hx hb hK hP hD hS 1 0 rfl rfl (vp_in_nI (show 3 < 4 by omega) (by omega)) dX5_loadTile_35 (fun H locs hP hD hS => ?_)
  rw [show (nI 3).toNatClampNeg = 3 from nI_clamp (show 3 < 2 ^ 31 by omega)] at hP hD
  have hP : va_P (dC, dI) vwCl [(om, .inr (5, [.int (nI cd), .int (nI ns), .ref apx, .ref apy, .ref act, .int (nI nb), .ref asd, .ref amv, .ref asl, .ref apl, .ref asw, .int (nI nw), .ref aor, .int (nI nc), .ref aon, .ref atw, .long mx, .long my, .ref aup, .ref alw, .int (nI nm), .long up, .long lo, .long rx, .long ry])), (aon, .inl (cJ, 4, .inr (.inl (vp_updL (vp_updL (vp_updL (vp_updL fon 0 x) 1 y) 2 (x + w)) 3 (y + h))))), (atw, .inl (cJ, 4, .inr (.inl ftw)))] H := hP
  have hD : va_D A [(om, .inr (5, [.int (nI cd), .int (nI ns), .ref apx, .ref apy, .ref act, .int (nI nb), .ref asd, .ref amv, .ref asl, .ref apl, .ref asw, .int (nI nw), .ref aor, .int (nI nc), .ref aon, .ref atw, .long mx, .long my, .ref aup, .ref alw, .int (nI nm), .long up, .long lo, .long rx, .long ry])), (aon, .inl (cJ, 4, .inr (.inl (vp_updL (vp_updL (vp_updL (vp_updL fon 0 x) 1 y) 2 (x + w)) 3 (y + h))))), (atw, .inl (cJ, 4, .inr (.inl ftw)))] := hD
  refine lv_aload_n hx hb dX5_loadTile_36 rfl (lv_at hl 0 rfl) ?_
  refine va_get (D := (dC, dI)) (ci := 5) (v := .ref atw) (C := RX5) (T := TX5) (N := 25) hx hb hts hi5 hown hK hP 0 rfl rfl 15 (by decide) f42 (fun _ h9 => h9) rfl dX5_loadTile_37 ?_
  refine lv_iconst (v := (nI 0)) hx hb dX5_loadTile_40 (by decide) ?_
  refine lv_bipush (v := (nI 16)) hx hb dX5_loadTile_41 (by decide) ?_
  refine lv_iload_n hx hb dX5_loadTile_43 rfl (lv_at hl 1 rfl) ?_
  refine lv_imul hx hb dX5_loadTile_44 ?_
  rw [show (nI 16) * (nI i) = (nI (16 * i)) from pk_mul 16 i]
  refine lv_i2l hx hb dX5_loadTile_45 rfl ?_
  refine va_last hx hb hK hP hD hS 2 0 rfl rfl (vp_in_nI (show 0 < 4 by omega) (by omega)) dX5_loadTile_46 (fun H locs hP hD hS => ?_)
  rw [show (nI 0).toNatClampNeg = 0 from nI_clamp (show 0 < 2 ^ 31 by omega)] at hP hD
  have hP : va_P (dC, dI) vwCl [(om, .inr (5, [.int (nI cd), .int (nI ns), .ref apx, .ref apy, .ref act, .int (nI nb), .ref asd, .ref amv, .ref asl, .ref apl, .ref asw, .int (nI nw), .ref aor, .int (nI nc), .ref aon, .ref atw, .long mx, .long my, .ref aup, .ref alw, .int (nI nm), .long up, .long lo, .long rx, .long ry])), (aon, .inl (cJ, 4, .inr (.inl (vp_updL (vp_updL (vp_updL (vp_updL fon 0 x) 1 y) 2 (x + w)) 3 (y + h))))), (atw, .inl (cJ, 4, .inr (.inl (vp_updL ftw 0 (nI (16 * i)).toInt64))))] H := hP
  have hD : va_D A [(om, .inr (5, [.int (nI cd), .int (nI ns), .ref apx, .ref apy, .ref act, .int (nI nb), .ref asd, .ref amv, .ref asl, .ref apl, .ref asw, .int (nI nw), .ref aor, .int (nI nc), .ref aon, .ref atw, .long mx, .long my, .ref aup, .ref alw, .int (nI nm), .long up, .long lo, .long rx, .long ry])), (aon, .inl (cJ, 4, .inr (.inl (vp_updL (vp_updL (vp_updL (vp_updL fon 0 x) 1 y) 2 (x + w)) 3 (y + h))))), (atw, .inl (cJ, 4, .inr (.inl (vp_updL ftw 0 (nI (16 * i)).toInt64))))] := hD
  refine lv_aload_n hx hb dX5_loadTile_47 rfl (lv_at hl 0 rfl) ?_
  refine va_get (D := (dC, dI)) (ci := 5) (v := .ref atw) (C := RX5) (T := TX5) (N := 25) hx hb hts hi5 hown hK hP 0 rfl rfl 15 (by decide) f42 (fun _ h9 => h9) rfl dX5_loadTile_48 ?_
  refine lv_iconst (v := (nI 1)) hx hb dX5_loadTile_51 (by decide) ?_
  refine lv_bipush (v := (nI 16)) hx hb dX5_loadTile_52 (by decide) ?_
  refine lv_iload_n hx hb dX5_loadTile_54 rfl (lv_at hl 2 rfl) ?_
  refine lv_imul hx hb dX5_loadTile_55 ?_
  rw [show (nI 16) * (nI j) = (nI (16 * j)) from pk_mul 16 j]
  refine lv_i2l hx hb dX5_loadTile_56 rfl ?_
  refine va_last hx hb hK hP hD hS 2 0 rfl rfl (vp_in_nI (show 1 < 4 by omega) (by omega)) dX5_loadTile_57 (fun H locs hP hD hS => ?_)
  rw [show (nI 1).toNatClampNeg = 1 from nI_clamp (show 1 < 2 ^ 31 by omega)] at hP hD
  have hP : va_P (dC, dI) vwCl [(om, .inr (5, [.int (nI cd), .int (nI ns), .ref apx, .ref apy, .ref act, .int (nI nb), .ref asd, .ref amv, .ref asl, .ref apl, .ref asw, .int (nI nw), .ref aor, .int (nI nc), .ref aon, .ref atw, .long mx, .long my, .ref aup, .ref alw, .int (nI nm), .long up, .long lo, .long rx, .long ry])), (aon, .inl (cJ, 4, .inr (.inl (vp_updL (vp_updL (vp_updL (vp_updL fon 0 x) 1 y) 2 (x + w)) 3 (y + h))))), (atw, .inl (cJ, 4, .inr (.inl (vp_updL (vp_updL ftw 0 (nI (16 * i)).toInt64) 1 (nI (16 * j)).toInt64))))] H := hP
  have hD : va_D A [(om, .inr (5, [.int (nI cd), .int (nI ns), .ref apx, .ref apy, .ref act, .int (nI nb), .ref asd, .ref amv, .ref asl, .ref apl, .ref asw, .int (nI nw), .ref aor, .int (nI nc), .ref aon, .ref atw, .long mx, .long my, .ref aup, .ref alw, .int (nI nm), .long up, .long lo, .long rx, .long ry])), (aon, .inl (cJ, 4, .inr (.inl (vp_updL (vp_updL (vp_updL (vp_updL fon 0 x) 1 y) 2 (x + w)) 3 (y + h))))), (atw, .inl (cJ, 4, .inr (.inl (vp_updL (vp_updL ftw 0 (nI (16 * i)).toInt64) 1 (nI (16 * j)).toInt64))))] := hD
  refine lv_aload_n hx hb dX5_loadTile_58 rfl (lv_at hl 0 rfl) ?_
  refine va_get (D := (dC, dI)) (ci := 5) (v := .ref atw) (C := RX5) (T := TX5) (N := 25) hx hb hts hi5 hown hK hP 0 rfl rfl 15 (by decide) f42 (fun _ h9 => h9) rfl dX5_loadTile_59 ?_
  refine lv_iconst (v := (nI 2)) hx hb dX5_loadTile_62 (by decide) ?_
  refine lv_bipush (v := (nI 16)) hx hb dX5_loadTile_63 (by decide) ?_
  refine lv_iload_n hx hb dX5_loadTile_65 rfl (lv_at hl 1 rfl) ?_
  refine lv_imul hx hb dX5_loadTile_66 ?_
  rw [show (nI 16) * (nI i) = (nI (16 * i)) from pk_mul 16 i]
  refine lv_bipush (v := (nI 16)) hx hb dX5_loadTile_67 (by decide) ?_
  refine lv_iadd hx hb dX5_loadTile_69 ?_
  rw [show (nI (16 * i)) + (nI 16) = (nI (((16 * i)) + 16)) from nI_add ((16 * i)) 16]
  refine lv_i2l hx hb dX5_loadTile_70 rfl ?_
  refine va_last hx hb hK hP hD hS 2 0 rfl rfl (vp_in_nI (show 2 < 4 by omega) (by omega)) dX5_loadTile_71 (fun H locs hP hD hS => ?_)
  rw [show (nI 2).toNatClampNeg = 2 from nI_clamp (show 2 < 2 ^ 31 by omega)] at hP hD
  have hP : va_P (dC, dI) vwCl [(om, .inr (5, [.int (nI cd), .int (nI ns), .ref apx, .ref apy, .ref act, .int (nI nb), .ref asd, .ref amv, .ref asl, .ref apl, .ref asw, .int (nI nw), .ref aor, .int (nI nc), .ref aon, .ref atw, .long mx, .long my, .ref aup, .ref alw, .int (nI nm), .long up, .long lo, .long rx, .long ry])), (aon, .inl (cJ, 4, .inr (.inl (vp_updL (vp_updL (vp_updL (vp_updL fon 0 x) 1 y) 2 (x + w)) 3 (y + h))))), (atw, .inl (cJ, 4, .inr (.inl (vp_updL (vp_updL (vp_updL ftw 0 (nI (16 * i)).toInt64) 1 (nI (16 * j)).toInt64) 2 (nI (((16 * i)) + 16)).toInt64))))] H := hP
  have hD : va_D A [(om, .inr (5, [.int (nI cd), .int (nI ns), .ref apx, .ref apy, .ref act, .int (nI nb), .ref asd, .ref amv, .ref asl, .ref apl, .ref asw, .int (nI nw), .ref aor, .int (nI nc), .ref aon, .ref atw, .long mx, .long my, .ref aup, .ref alw, .int (nI nm), .long up, .long lo, .long rx, .long ry])), (aon, .inl (cJ, 4, .inr (.inl (vp_updL (vp_updL (vp_updL (vp_updL fon 0 x) 1 y) 2 (x + w)) 3 (y + h))))), (atw, .inl (cJ, 4, .inr (.inl (vp_updL (vp_updL (vp_updL ftw 0 (nI (16 * i)).toInt64) 1 (nI (16 * j)).toInt64) 2 (nI (((16 * i)) + 16)).toInt64))))] := hD
  refine lv_aload_n hx hb dX5_loadTile_72 rfl (lv_at hl 0 rfl) ?_
  refine va_get (D := (dC, dI)) (ci := 5) (v := .ref atw) (C := RX5) (T := TX5) (N := 25) hx hb hts hi5 hown hK hP 0 rfl rfl 15 (by decide) f42 (fun _ h9 => h9) rfl dX5_loadTile_73 ?_
  refine lv_iconst (v := (nI 3)) hx hb dX5_loadTile_76 (by decide) ?_
  refine lv_bipush (v := (nI 16)) hx hb dX5_loadTile_77 (by decide) ?_
  refine lv_iload_n hx hb dX5_loadTile_79 rfl (lv_at hl 2 rfl) ?_
  refine lv_imul hx hb dX5_loadTile_80 ?_
  rw [show (nI 16) * (nI j) = (nI (16 * j)) from pk_mul 16 j]
  refine lv_bipush (v := (nI 16)) hx hb dX5_loadTile_81 (by decide) ?_
  refine lv_iadd hx hb dX5_loadTile_83 ?_
  rw [show (nI (16 * j)) + (nI 16) = (nI (((16 * j)) + 16)) from nI_add ((16 * j)) 16]
  refine lv_i2l hx hb dX5_loadTile_84 rfl ?_
  refine va_last hx hb hK hP hD hS 2 0 rfl rfl (vp_in_nI (show 3 < 4 by omega) (by omega)) dX5_loadTile_85 (fun H locs hP hD hS => ?_)
  rw [show (nI 3).toNatClampNeg = 3 from nI_clamp (show 3 < 2 ^ 31 by omega)] at hP hD
  have hP : va_P (dC, dI) vwCl [(om, .inr (5, [.int (nI cd), .int (nI ns), .ref apx, .ref apy, .ref act, .int (nI nb), .ref asd, .ref amv, .ref asl, .ref apl, .ref asw, .int (nI nw), .ref aor, .int (nI nc), .ref aon, .ref atw, .long mx, .long my, .ref aup, .ref alw, .int (nI nm), .long up, .long lo, .long rx, .long ry])), (aon, .inl (cJ, 4, .inr (.inl (vp_updL (vp_updL (vp_updL (vp_updL fon 0 x) 1 y) 2 (x + w)) 3 (y + h))))), (atw, .inl (cJ, 4, .inr (.inl (vp_updL (vp_updL (vp_updL (vp_updL ftw 0 (nI (16 * i)).toInt64) 1 (nI (16 * j)).toInt64) 2 (nI (((16 * i)) + 16)).toInt64) 3 (nI (((16 * j)) + 16)).toInt64))))] H := hP
  have hD : va_D A [(om, .inr (5, [.int (nI cd), .int (nI ns), .ref apx, .ref apy, .ref act, .int (nI nb), .ref asd, .ref amv, .ref asl, .ref apl, .ref asw, .int (nI nw), .ref aor, .int (nI nc), .ref aon, .ref atw, .long mx, .long my, .ref aup, .ref alw, .int (nI nm), .long up, .long lo, .long rx, .long ry])), (aon, .inl (cJ, 4, .inr (.inl (vp_updL (vp_updL (vp_updL (vp_updL fon 0 x) 1 y) 2 (x + w)) 3 (y + h))))), (atw, .inl (cJ, 4, .inr (.inl (vp_updL (vp_updL (vp_updL (vp_updL ftw 0 (nI (16 * i)).toInt64) 1 (nI (16 * j)).toInt64) 2 (nI (((16 * i)) + 16)).toInt64) 3 (nI (((16 * j)) + 16)).toInt64))))] := hD
  refine lv_aload_n hx hb dX5_loadTile_86 rfl (lv_at hl 0 rfl) ?_
  refine lv_lconst (v := 0) hx hb dX5_loadTile_87 (by decide) ?_
  refine va_put (D := (dC, dI)) (ci := 5) (v := .long 0) (ty := .long) (C := RX5) (T := TX5) (N := 25) hx hb hts hi5 tyX5 tyX5_ok nmX5 hown hK hP hD hS 0 rfl rfl 16 (by decide) f128 (fun _ h9 => h9) rfl (by decide +kernel) rfl rfl (Nat.le_of_ble_eq_true rfl) dX5_loadTile_88 (fun H locs hP hD hS => ?_)
  have hP : va_P (dC, dI) vwCl [(om, .inr (5, [.int (nI cd), .int (nI ns), .ref apx, .ref apy, .ref act, .int (nI nb), .ref asd, .ref amv, .ref asl, .ref apl, .ref asw, .int (nI nw), .ref aor, .int (nI nc), .ref aon, .ref atw, .long 0, .long my, .ref aup, .ref alw, .int (nI nm), .long up, .long lo, .long rx, .long ry])), (aon, .inl (cJ, 4, .inr (.inl (vp_updL (vp_updL (vp_updL (vp_updL fon 0 x) 1 y) 2 (x + w)) 3 (y + h))))), (atw, .inl (cJ, 4, .inr (.inl (vp_updL (vp_updL (vp_updL (vp_updL ftw 0 (nI (16 * i)).toInt64) 1 (nI (16 * j)).toInt64) 2 (nI (((16 * i)) + 16)).toInt64) 3 (nI (((16 * j)) + 16)).toInt64))))] H := hP
  have hD : va_D A [(om, .inr (5, [.int (nI cd), .int (nI ns), .ref apx, .ref apy, .ref act, .int (nI nb), .ref asd, .ref amv, .ref asl, .ref apl, .ref asw, .int (nI nw), .ref aor, .int (nI nc), .ref aon, .ref atw, .long 0, .long my, .ref aup, .ref alw, .int (nI nm), .long up, .long lo, .long rx, .long ry])), (aon, .inl (cJ, 4, .inr (.inl (vp_updL (vp_updL (vp_updL (vp_updL fon 0 x) 1 y) 2 (x + w)) 3 (y + h))))), (atw, .inl (cJ, 4, .inr (.inl (vp_updL (vp_updL (vp_updL (vp_updL ftw 0 (nI (16 * i)).toInt64) 1 (nI (16 * j)).toInt64) 2 (nI (((16 * i)) + 16)).toInt64) 3 (nI (((16 * j)) + 16)).toInt64))))] := hD
  refine lv_aload_n hx hb dX5_loadTile_91 rfl (lv_at hl 0 rfl) ?_
  refine lv_lconst (v := 0) hx hb dX5_loadTile_92 (by decide) ?_
  refine va_put (D := (dC, dI)) (ci := 5) (v := .long 0) (ty := .long) (C := RX5) (T := TX5) (N := 25) hx hb hts hi5 tyX5 tyX5_ok nmX5 hown hK hP hD hS 0 rfl rfl 17 (by decide) f132 (fun _ h9 => h9) rfl (by decide +kernel) rfl rfl (Nat.le_of_ble_eq_true rfl) dX5_loadTile_93 (fun H locs hP hD hS => ?_)
  have hP : va_P (dC, dI) vwCl [(om, .inr (5, [.int (nI cd), .int (nI ns), .ref apx, .ref apy, .ref act, .int (nI nb), .ref asd, .ref amv, .ref asl, .ref apl, .ref asw, .int (nI nw), .ref aor, .int (nI nc), .ref aon, .ref atw, .long 0, .long 0, .ref aup, .ref alw, .int (nI nm), .long up, .long lo, .long rx, .long ry])), (aon, .inl (cJ, 4, .inr (.inl (vp_updL (vp_updL (vp_updL (vp_updL fon 0 x) 1 y) 2 (x + w)) 3 (y + h))))), (atw, .inl (cJ, 4, .inr (.inl (vp_updL (vp_updL (vp_updL (vp_updL ftw 0 (nI (16 * i)).toInt64) 1 (nI (16 * j)).toInt64) 2 (nI (((16 * i)) + 16)).toInt64) 3 (nI (((16 * j)) + 16)).toInt64))))] H := hP
  have hD : va_D A [(om, .inr (5, [.int (nI cd), .int (nI ns), .ref apx, .ref apy, .ref act, .int (nI nb), .ref asd, .ref amv, .ref asl, .ref apl, .ref asw, .int (nI nw), .ref aor, .int (nI nc), .ref aon, .ref atw, .long 0, .long 0, .ref aup, .ref alw, .int (nI nm), .long up, .long lo, .long rx, .long ry])), (aon, .inl (cJ, 4, .inr (.inl (vp_updL (vp_updL (vp_updL (vp_updL fon 0 x) 1 y) 2 (x + w)) 3 (y + h))))), (atw, .inl (cJ, 4, .inr (.inl (vp_updL (vp_updL (vp_updL (vp_updL ftw 0 (nI (16 * i)).toInt64) 1 (nI (16 * j)).toInt64) 2 (nI (((16 * i)) + 16)).toInt64) 3 (nI (((16 * j)) + 16)).toInt64))))] := hD
  exact kEv hx hb hr hlocks hP hK hD hS dX5_loadTile_96

set_option maxHeartbeats 4000000 in
set_option maxRecDepth 100000 in
theorem tX5_box_e1 (l : Launch) (dC : Nat → ClassId) (dI : Nat → Nat → Nat) (cJ cI cZ : ClassId) (om cd ns apx apy act nb asd amv asl apl asw nw aor nc aon atw aup alw nm : Nat) (mx my up lo rx ry : Int64) (fsd : Nat → Int64) (fmv : Nat → Int64) (x0 y0 x1 y1 : Int64) (hs : nb = 16) : MMi l yX5_box wsX5_box { frames := 0, cells := 0, slots := 0, locals := 0 } [.ref om, .long x0, .long y0, .long x1, .long y1] (dC, dI) [(om, .inr (5, [.int (nI cd), .int (nI ns), .ref apx, .ref apy, .ref act, .int (nI nb), .ref asd, .ref amv, .ref asl, .ref apl, .ref asw, .int (nI nw), .ref aor, .int (nI nc), .ref aon, .ref atw, .long mx, .long my, .ref aup, .ref alw, .int (nI nm), .long up, .long lo, .long rx, .long ry])), (asd, .inl (cJ, 64, .inr (.inl fsd))), (amv, .inl (cJ, 32, .inr (.inl fmv)))] [(om, .inr (5, [.int (nI 1), .int (nI ns), .ref apx, .ref apy, .ref act, .int (nI nb), .ref asd, .ref amv, .ref asl, .ref apl, .ref asw, .int (nI nw), .ref aor, .int (nI nc), .ref aon, .ref atw, .long mx, .long my, .ref aup, .ref alw, .int (nI nm), .long up, .long lo, .long rx, .long ry])), (asd, .inl (cJ, 64, .inr (.inl fsd))), (amv, .inl (cJ, 32, .inr (.inl fmv)))] [(cJ, .long), (cI, .int), (cZ, .boolean)] (nI 0) := by
  intro sz
  refine kOf (cc := cX5_box) (maxL := 9) (ret := (some .int)) (by decide) rfl (Nat.le_of_ble_eq_true rfl) ?_
  intro p e s m below meth c hx hb hr hml hts hown hlocks hB ls hl
  obtain ⟨hsz, hP, hK, hD0⟩ := hB
  subst hsz
  have hD := hD0.self (sz := s.heap.size)
  generalize hAe : va_A [(om, .inr (5, [.int (nI cd), .int (nI ns), .ref apx, .ref apy, .ref act, .int (nI nb), .ref asd, .ref amv, .ref asl, .ref apl, .ref asw, .int (nI nw), .ref aor, .int (nI nc), .ref aon, .ref atw, .long mx, .long my, .ref aup, .ref alw, .int (nI nm), .long up, .long lo, .long rx, .long ry])), (asd, .inl (cJ, 64, .inr (.inl fsd))), (amv, .inl (cJ, 32, .inr (.inl fmv)))] s.heap.size = A at hD ⊢
  have hA : ∀ q : Nat, s.heap.size ≤ q → A q := fun q h => by rw [← hAe]; exact Or.inr h
  have hS : va_S A s.heap s.heap [] := va_S.rf
  have hl : lv_has ls 9 [(0, .ref om), (1, .long x0), (3, .long y0), (5, .long x1), (7, .long y1)] := hl
  have hi5 : ∀ w ∈ u_ws RX5 TX5 25, w ∈ wsX5_box := by decide +kernel
  have f54 := hts (.fieldLink RX5 54 "SweptBoxesModel" "code" "I") (by decide +kernel)
  have f61 := hts (.fieldLink RX5 61 "SweptBoxesModel" "boxes" "I") (by decide +kernel)
  refine lv_aload_n hx hb dX5_box_0 rfl (lv_at hl 0 rfl) ?_
  refine lv_aload_n hx hb dX5_box_1 rfl (lv_at hl 0 rfl) ?_
  refine va_get (D := (dC, dI)) (ci := 5) (v := .int (nI nb)) (C := RX5) (T := TX5) (N := 25) hx hb hts hi5 hown hK hP 0 rfl rfl 5 (by decide) f61 (fun _ h9 => h9) rfl dX5_box_2 ?_
  refine lv_bipush (v := (nI 16)) hx hb dX5_box_5 (by decide) ?_
  refine lv_icmp_ne (tgt := 14) hx hb dX5_box_7 (by decide) (fun c7 => ?_) (fun c7 => ?_)
  · rw [nI_eq (by omega) (by omega)] at c7
    exfalso; omega
  · rw [nI_eq (by omega) (by omega)] at c7
    refine lv_iconst (v := (nI 1)) hx hb dX5_box_10 (by decide) ?_
    refine lv_goto (tgt := 63) hx hb dX5_box_11 (by decide) ?_
    refine va_put (D := (dC, dI)) (ci := 5) (v := .int (nI 1)) (ty := .int) (C := RX5) (T := TX5) (N := 25) hx hb hts hi5 tyX5 tyX5_ok nmX5 hown hK hP hD hS 0 rfl rfl 0 (by decide) f54 (fun _ h9 => h9) rfl (by decide +kernel) rfl rfl (Nat.le_of_ble_eq_true rfl) dX5_box_63 (fun H locs hP hD hS => ?_)
    have hP : va_P (dC, dI) vwCl [(om, .inr (5, [.int (nI 1), .int (nI ns), .ref apx, .ref apy, .ref act, .int (nI nb), .ref asd, .ref amv, .ref asl, .ref apl, .ref asw, .int (nI nw), .ref aor, .int (nI nc), .ref aon, .ref atw, .long mx, .long my, .ref aup, .ref alw, .int (nI nm), .long up, .long lo, .long rx, .long ry])), (asd, .inl (cJ, 64, .inr (.inl fsd))), (amv, .inl (cJ, 32, .inr (.inl fmv)))] H := hP
    have hD : va_D A [(om, .inr (5, [.int (nI 1), .int (nI ns), .ref apx, .ref apy, .ref act, .int (nI nb), .ref asd, .ref amv, .ref asl, .ref apl, .ref asw, .int (nI nw), .ref aor, .int (nI nc), .ref aon, .ref atw, .long mx, .long my, .ref aup, .ref alw, .int (nI nm), .long up, .long lo, .long rx, .long ry])), (asd, .inl (cJ, 64, .inr (.inl fsd))), (amv, .inl (cJ, 32, .inr (.inl fmv)))] := hD
    refine lv_aload_n hx hb dX5_box_66 rfl (lv_at hl 0 rfl) ?_
    refine va_get (D := (dC, dI)) (ci := 5) (v := .int (nI 1)) (C := RX5) (T := TX5) (N := 25) hx hb hts hi5 hown hK hP 0 rfl rfl 0 (by decide) f54 (fun _ h9 => h9) rfl dX5_box_67 ?_
    refine lv_if_le (tgt := 75) hx hb dX5_box_70 (by decide) (fun c70 => ?_) (fun c70 => ?_)
    · skip
      exact absurd c70 (by decide)
    · rw [← nI_0, nI_leI (by omega) (by omega), Nat.not_le] at c70
      refine lv_iconst (v := (nI 0)) hx hb dX5_box_73 (by decide) ?_
      exact kEi hx hb hr hlocks hP hK hD hS dX5_box_74 rfl

set_option maxHeartbeats 4000000 in
set_option maxRecDepth 100000 in
theorem tX5_box_e2 (l : Launch) (dC : Nat → ClassId) (dI : Nat → Nat → Nat) (cJ cI cZ : ClassId) (om cd ns apx apy act nb asd amv asl apl asw nw aor nc aon atw aup alw nm : Nat) (mx my up lo rx ry : Int64) (fsd : Nat → Int64) (fmv : Nat → Int64) (x0 y0 x1 y1 : Int64) (hs : nb < 16) (hbad : ¬ ((-10000 ≤ x0 ∧ x0 ≤ 10000) ∧ (-10000 ≤ y0 ∧ y0 ≤ 10000) ∧ (-10000 ≤ x1 ∧ x1 ≤ 10000) ∧ (-10000 ≤ y1 ∧ y1 ≤ 10000) ∧ x0 ≤ x1 ∧ y0 ≤ y1)) : MMi l yX5_box wsX5_box { frames := 1, cells := 0, slots := 0, locals := 21 } [.ref om, .long x0, .long y0, .long x1, .long y1] (dC, dI) [(om, .inr (5, [.int (nI cd), .int (nI ns), .ref apx, .ref apy, .ref act, .int (nI nb), .ref asd, .ref amv, .ref asl, .ref apl, .ref asw, .int (nI nw), .ref aor, .int (nI nc), .ref aon, .ref atw, .long mx, .long my, .ref aup, .ref alw, .int (nI nm), .long up, .long lo, .long rx, .long ry])), (asd, .inl (cJ, 64, .inr (.inl fsd))), (amv, .inl (cJ, 32, .inr (.inl fmv)))] [(om, .inr (5, [.int (nI 2), .int (nI ns), .ref apx, .ref apy, .ref act, .int (nI nb), .ref asd, .ref amv, .ref asl, .ref apl, .ref asw, .int (nI nw), .ref aor, .int (nI nc), .ref aon, .ref atw, .long mx, .long my, .ref aup, .ref alw, .int (nI nm), .long up, .long lo, .long rx, .long ry])), (asd, .inl (cJ, 64, .inr (.inl fsd))), (amv, .inl (cJ, 32, .inr (.inl fmv)))] [(cJ, .long), (cI, .int), (cZ, .boolean)] (nI 0) := by
  intro sz
  refine kOf (cc := cX5_box) (maxL := 9) (ret := (some .int)) (by decide) rfl (Nat.le_of_ble_eq_true rfl) ?_
  intro p e s m below meth c hx hb hr hml hts hown hlocks hB ls hl
  obtain ⟨hsz, hP, hK, hD0⟩ := hB
  subst hsz
  have hD := hD0.self (sz := s.heap.size)
  generalize hAe : va_A [(om, .inr (5, [.int (nI cd), .int (nI ns), .ref apx, .ref apy, .ref act, .int (nI nb), .ref asd, .ref amv, .ref asl, .ref apl, .ref asw, .int (nI nw), .ref aor, .int (nI nc), .ref aon, .ref atw, .long mx, .long my, .ref aup, .ref alw, .int (nI nm), .long up, .long lo, .long rx, .long ry])), (asd, .inl (cJ, 64, .inr (.inl fsd))), (amv, .inl (cJ, 32, .inr (.inl fmv)))] s.heap.size = A at hD ⊢
  have hA : ∀ q : Nat, s.heap.size ≤ q → A q := fun q h => by rw [← hAe]; exact Or.inr h
  have hS : va_S A s.heap s.heap [] := va_S.rf
  have hl : lv_has ls 9 [(0, .ref om), (1, .long x0), (3, .long y0), (5, .long x1), (7, .long y1)] := hl
  have hi5 : ∀ w ∈ u_ws RX5 TX5 25, w ∈ wsX5_box := by decide +kernel
  have f54 := hts (.fieldLink RX5 54 "SweptBoxesModel" "code" "I") (by decide +kernel)
  have f61 := hts (.fieldLink RX5 61 "SweptBoxesModel" "boxes" "I") (by decide +kernel)
  refine lv_aload_n hx hb dX5_box_0 rfl (lv_at hl 0 rfl) ?_
  refine lv_aload_n hx hb dX5_box_1 rfl (lv_at hl 0 rfl) ?_
  refine va_get (D := (dC, dI)) (ci := 5) (v := .int (nI nb)) (C := RX5) (T := TX5) (N := 25) hx hb hts hi5 hown hK hP 0 rfl rfl 5 (by decide) f61 (fun _ h9 => h9) rfl dX5_box_2 ?_
  refine lv_bipush (v := (nI 16)) hx hb dX5_box_5 (by decide) ?_
  refine lv_icmp_ne (tgt := 14) hx hb dX5_box_7 (by decide) (fun c7 => ?_) (fun c7 => ?_)
  · rw [nI_eq (by omega) (by omega)] at c7
    refine lv_lload_n hx hb dX5_box_14 rfl (lv_at hl 1 rfl) ?_
    refine kpSi (As := [.long x0]) (rest := [.ref om]) (WC := []) (tyC := []) ⟨hx, hb, hml, hown, hts⟩ (tX5_isIn l dC dI x0) (cwS 1 hts gX5_box_X5_isIn rfl rfl rfl (by decide +kernel) ⟨Nat.le_of_ble_eq_true rfl, Nat.le_of_ble_eq_true rfl⟩) (kPick (isC := []) hP rfl) (hK.sub [] rfl) rfl rfl hl.1 (Nat.le_of_ble_eq_true rfl) dX5_box_15 ⟨Nat.le_of_ble_eq_true rfl, Nat.le_of_ble_eq_true rfl⟩ ?_
    refine lv_if_eq (tgt := 62) hx hb dX5_box_18 (by decide) (fun c18 => ?_) (fun c18 => ?_)
    · replace c18 := bI_0 c18; replace c18 := of_decide_eq_false c18
      refine lv_iconst (v := (nI 2)) hx hb dX5_box_62 (by decide) ?_
      refine va_put (D := (dC, dI)) (ci := 5) (v := .int (nI 2)) (ty := .int) (C := RX5) (T := TX5) (N := 25) hx hb hts hi5 tyX5 tyX5_ok nmX5 hown hK hP hD hS 0 rfl rfl 0 (by decide) f54 (fun _ h9 => h9) rfl (by decide +kernel) rfl rfl (Nat.le_of_ble_eq_true rfl) dX5_box_63 (fun H locs hP hD hS => ?_)
      have hP : va_P (dC, dI) vwCl [(om, .inr (5, [.int (nI 2), .int (nI ns), .ref apx, .ref apy, .ref act, .int (nI nb), .ref asd, .ref amv, .ref asl, .ref apl, .ref asw, .int (nI nw), .ref aor, .int (nI nc), .ref aon, .ref atw, .long mx, .long my, .ref aup, .ref alw, .int (nI nm), .long up, .long lo, .long rx, .long ry])), (asd, .inl (cJ, 64, .inr (.inl fsd))), (amv, .inl (cJ, 32, .inr (.inl fmv)))] H := hP
      have hD : va_D A [(om, .inr (5, [.int (nI 2), .int (nI ns), .ref apx, .ref apy, .ref act, .int (nI nb), .ref asd, .ref amv, .ref asl, .ref apl, .ref asw, .int (nI nw), .ref aor, .int (nI nc), .ref aon, .ref atw, .long mx, .long my, .ref aup, .ref alw, .int (nI nm), .long up, .long lo, .long rx, .long ry])), (asd, .inl (cJ, 64, .inr (.inl fsd))), (amv, .inl (cJ, 32, .inr (.inl fmv)))] := hD
      refine lv_aload_n hx hb dX5_box_66 rfl (lv_at hl 0 rfl) ?_
      refine va_get (D := (dC, dI)) (ci := 5) (v := .int (nI 2)) (C := RX5) (T := TX5) (N := 25) hx hb hts hi5 hown hK hP 0 rfl rfl 0 (by decide) f54 (fun _ h9 => h9) rfl dX5_box_67 ?_
      refine lv_if_le (tgt := 75) hx hb dX5_box_70 (by decide) (fun c70 => ?_) (fun c70 => ?_)
      · skip
        exact absurd c70 (by decide)
      · rw [← nI_0, nI_leI (by omega) (by omega), Nat.not_le] at c70
        refine lv_iconst (v := (nI 0)) hx hb dX5_box_73 (by decide) ?_
        exact kEi hx hb hr hlocks hP hK hD hS dX5_box_74 rfl
    · replace c18 := bI_n c18; replace c18 := of_decide_eq_true c18
      refine lv_lload_n hx hb dX5_box_21 rfl (lv_at hl 2 rfl) ?_
      refine kpSi (As := [.long y0]) (rest := [.ref om]) (WC := []) (tyC := []) ⟨hx, hb, hml, hown, hts⟩ (tX5_isIn l dC dI y0) (cwS 1 hts gX5_box_X5_isIn rfl rfl rfl (by decide +kernel) ⟨Nat.le_of_ble_eq_true rfl, Nat.le_of_ble_eq_true rfl⟩) (kPick (isC := []) hP rfl) (hK.sub [] rfl) rfl rfl hl.1 (Nat.le_of_ble_eq_true rfl) dX5_box_22 ⟨Nat.le_of_ble_eq_true rfl, Nat.le_of_ble_eq_true rfl⟩ ?_
      refine lv_if_eq (tgt := 62) hx hb dX5_box_25 (by decide) (fun c25 => ?_) (fun c25 => ?_)
      · replace c25 := bI_0 c25; replace c25 := of_decide_eq_false c25
        refine lv_iconst (v := (nI 2)) hx hb dX5_box_62 (by decide) ?_
        refine va_put (D := (dC, dI)) (ci := 5) (v := .int (nI 2)) (ty := .int) (C := RX5) (T := TX5) (N := 25) hx hb hts hi5 tyX5 tyX5_ok nmX5 hown hK hP hD hS 0 rfl rfl 0 (by decide) f54 (fun _ h9 => h9) rfl (by decide +kernel) rfl rfl (Nat.le_of_ble_eq_true rfl) dX5_box_63 (fun H locs hP hD hS => ?_)
        have hP : va_P (dC, dI) vwCl [(om, .inr (5, [.int (nI 2), .int (nI ns), .ref apx, .ref apy, .ref act, .int (nI nb), .ref asd, .ref amv, .ref asl, .ref apl, .ref asw, .int (nI nw), .ref aor, .int (nI nc), .ref aon, .ref atw, .long mx, .long my, .ref aup, .ref alw, .int (nI nm), .long up, .long lo, .long rx, .long ry])), (asd, .inl (cJ, 64, .inr (.inl fsd))), (amv, .inl (cJ, 32, .inr (.inl fmv)))] H := hP
        have hD : va_D A [(om, .inr (5, [.int (nI 2), .int (nI ns), .ref apx, .ref apy, .ref act, .int (nI nb), .ref asd, .ref amv, .ref asl, .ref apl, .ref asw, .int (nI nw), .ref aor, .int (nI nc), .ref aon, .ref atw, .long mx, .long my, .ref aup, .ref alw, .int (nI nm), .long up, .long lo, .long rx, .long ry])), (asd, .inl (cJ, 64, .inr (.inl fsd))), (amv, .inl (cJ, 32, .inr (.inl fmv)))] := hD
        refine lv_aload_n hx hb dX5_box_66 rfl (lv_at hl 0 rfl) ?_
        refine va_get (D := (dC, dI)) (ci := 5) (v := .int (nI 2)) (C := RX5) (T := TX5) (N := 25) hx hb hts hi5 hown hK hP 0 rfl rfl 0 (by decide) f54 (fun _ h9 => h9) rfl dX5_box_67 ?_
        refine lv_if_le (tgt := 75) hx hb dX5_box_70 (by decide) (fun c70 => ?_) (fun c70 => ?_)
        · skip
          exact absurd c70 (by decide)
        · rw [← nI_0, nI_leI (by omega) (by omega), Nat.not_le] at c70
          refine lv_iconst (v := (nI 0)) hx hb dX5_box_73 (by decide) ?_
          exact kEi hx hb hr hlocks hP hK hD hS dX5_box_74 rfl
      · replace c25 := bI_n c25; replace c25 := of_decide_eq_true c25
        refine lv_lload hx hb dX5_box_28 (lv_at hl 3 rfl) ?_
        refine kpSi (As := [.long x1]) (rest := [.ref om]) (WC := []) (tyC := []) ⟨hx, hb, hml, hown, hts⟩ (tX5_isIn l dC dI x1) (cwS 1 hts gX5_box_X5_isIn rfl rfl rfl (by decide +kernel) ⟨Nat.le_of_ble_eq_true rfl, Nat.le_of_ble_eq_true rfl⟩) (kPick (isC := []) hP rfl) (hK.sub [] rfl) rfl rfl hl.1 (Nat.le_of_ble_eq_true rfl) dX5_box_30 ⟨Nat.le_of_ble_eq_true rfl, Nat.le_of_ble_eq_true rfl⟩ ?_
        refine lv_if_eq (tgt := 62) hx hb dX5_box_33 (by decide) (fun c33 => ?_) (fun c33 => ?_)
        · replace c33 := bI_0 c33; replace c33 := of_decide_eq_false c33
          refine lv_iconst (v := (nI 2)) hx hb dX5_box_62 (by decide) ?_
          refine va_put (D := (dC, dI)) (ci := 5) (v := .int (nI 2)) (ty := .int) (C := RX5) (T := TX5) (N := 25) hx hb hts hi5 tyX5 tyX5_ok nmX5 hown hK hP hD hS 0 rfl rfl 0 (by decide) f54 (fun _ h9 => h9) rfl (by decide +kernel) rfl rfl (Nat.le_of_ble_eq_true rfl) dX5_box_63 (fun H locs hP hD hS => ?_)
          have hP : va_P (dC, dI) vwCl [(om, .inr (5, [.int (nI 2), .int (nI ns), .ref apx, .ref apy, .ref act, .int (nI nb), .ref asd, .ref amv, .ref asl, .ref apl, .ref asw, .int (nI nw), .ref aor, .int (nI nc), .ref aon, .ref atw, .long mx, .long my, .ref aup, .ref alw, .int (nI nm), .long up, .long lo, .long rx, .long ry])), (asd, .inl (cJ, 64, .inr (.inl fsd))), (amv, .inl (cJ, 32, .inr (.inl fmv)))] H := hP
          have hD : va_D A [(om, .inr (5, [.int (nI 2), .int (nI ns), .ref apx, .ref apy, .ref act, .int (nI nb), .ref asd, .ref amv, .ref asl, .ref apl, .ref asw, .int (nI nw), .ref aor, .int (nI nc), .ref aon, .ref atw, .long mx, .long my, .ref aup, .ref alw, .int (nI nm), .long up, .long lo, .long rx, .long ry])), (asd, .inl (cJ, 64, .inr (.inl fsd))), (amv, .inl (cJ, 32, .inr (.inl fmv)))] := hD
          refine lv_aload_n hx hb dX5_box_66 rfl (lv_at hl 0 rfl) ?_
          refine va_get (D := (dC, dI)) (ci := 5) (v := .int (nI 2)) (C := RX5) (T := TX5) (N := 25) hx hb hts hi5 hown hK hP 0 rfl rfl 0 (by decide) f54 (fun _ h9 => h9) rfl dX5_box_67 ?_
          refine lv_if_le (tgt := 75) hx hb dX5_box_70 (by decide) (fun c70 => ?_) (fun c70 => ?_)
          · skip
            exact absurd c70 (by decide)
          · rw [← nI_0, nI_leI (by omega) (by omega), Nat.not_le] at c70
            refine lv_iconst (v := (nI 0)) hx hb dX5_box_73 (by decide) ?_
            exact kEi hx hb hr hlocks hP hK hD hS dX5_box_74 rfl
        · replace c33 := bI_n c33; replace c33 := of_decide_eq_true c33
          refine lv_lload hx hb dX5_box_36 (lv_at hl 4 rfl) ?_
          refine kpSi (As := [.long y1]) (rest := [.ref om]) (WC := []) (tyC := []) ⟨hx, hb, hml, hown, hts⟩ (tX5_isIn l dC dI y1) (cwS 1 hts gX5_box_X5_isIn rfl rfl rfl (by decide +kernel) ⟨Nat.le_of_ble_eq_true rfl, Nat.le_of_ble_eq_true rfl⟩) (kPick (isC := []) hP rfl) (hK.sub [] rfl) rfl rfl hl.1 (Nat.le_of_ble_eq_true rfl) dX5_box_38 ⟨Nat.le_of_ble_eq_true rfl, Nat.le_of_ble_eq_true rfl⟩ ?_
          refine lv_if_eq (tgt := 62) hx hb dX5_box_41 (by decide) (fun c41 => ?_) (fun c41 => ?_)
          · replace c41 := bI_0 c41; replace c41 := of_decide_eq_false c41
            refine lv_iconst (v := (nI 2)) hx hb dX5_box_62 (by decide) ?_
            refine va_put (D := (dC, dI)) (ci := 5) (v := .int (nI 2)) (ty := .int) (C := RX5) (T := TX5) (N := 25) hx hb hts hi5 tyX5 tyX5_ok nmX5 hown hK hP hD hS 0 rfl rfl 0 (by decide) f54 (fun _ h9 => h9) rfl (by decide +kernel) rfl rfl (Nat.le_of_ble_eq_true rfl) dX5_box_63 (fun H locs hP hD hS => ?_)
            have hP : va_P (dC, dI) vwCl [(om, .inr (5, [.int (nI 2), .int (nI ns), .ref apx, .ref apy, .ref act, .int (nI nb), .ref asd, .ref amv, .ref asl, .ref apl, .ref asw, .int (nI nw), .ref aor, .int (nI nc), .ref aon, .ref atw, .long mx, .long my, .ref aup, .ref alw, .int (nI nm), .long up, .long lo, .long rx, .long ry])), (asd, .inl (cJ, 64, .inr (.inl fsd))), (amv, .inl (cJ, 32, .inr (.inl fmv)))] H := hP
            have hD : va_D A [(om, .inr (5, [.int (nI 2), .int (nI ns), .ref apx, .ref apy, .ref act, .int (nI nb), .ref asd, .ref amv, .ref asl, .ref apl, .ref asw, .int (nI nw), .ref aor, .int (nI nc), .ref aon, .ref atw, .long mx, .long my, .ref aup, .ref alw, .int (nI nm), .long up, .long lo, .long rx, .long ry])), (asd, .inl (cJ, 64, .inr (.inl fsd))), (amv, .inl (cJ, 32, .inr (.inl fmv)))] := hD
            refine lv_aload_n hx hb dX5_box_66 rfl (lv_at hl 0 rfl) ?_
            refine va_get (D := (dC, dI)) (ci := 5) (v := .int (nI 2)) (C := RX5) (T := TX5) (N := 25) hx hb hts hi5 hown hK hP 0 rfl rfl 0 (by decide) f54 (fun _ h9 => h9) rfl dX5_box_67 ?_
            refine lv_if_le (tgt := 75) hx hb dX5_box_70 (by decide) (fun c70 => ?_) (fun c70 => ?_)
            · skip
              exact absurd c70 (by decide)
            · rw [← nI_0, nI_leI (by omega) (by omega), Nat.not_le] at c70
              refine lv_iconst (v := (nI 0)) hx hb dX5_box_73 (by decide) ?_
              exact kEi hx hb hr hlocks hP hK hD hS dX5_box_74 rfl
          · replace c41 := bI_n c41; replace c41 := of_decide_eq_true c41
            refine lv_lload_n hx hb dX5_box_44 rfl (lv_at hl 1 rfl) ?_
            refine lv_lload hx hb dX5_box_45 (lv_at hl 3 rfl) ?_
            refine W.lcmp hx hb dX5_box_47 ?_
            refine lv_if_gt (tgt := 62) hx hb dX5_box_48 (by decide) (fun c48 => ?_) (fun c48 => ?_)
            · rw [lg_cmp_gt] at c48
              refine lv_iconst (v := (nI 2)) hx hb dX5_box_62 (by decide) ?_
              refine va_put (D := (dC, dI)) (ci := 5) (v := .int (nI 2)) (ty := .int) (C := RX5) (T := TX5) (N := 25) hx hb hts hi5 tyX5 tyX5_ok nmX5 hown hK hP hD hS 0 rfl rfl 0 (by decide) f54 (fun _ h9 => h9) rfl (by decide +kernel) rfl rfl (Nat.le_of_ble_eq_true rfl) dX5_box_63 (fun H locs hP hD hS => ?_)
              have hP : va_P (dC, dI) vwCl [(om, .inr (5, [.int (nI 2), .int (nI ns), .ref apx, .ref apy, .ref act, .int (nI nb), .ref asd, .ref amv, .ref asl, .ref apl, .ref asw, .int (nI nw), .ref aor, .int (nI nc), .ref aon, .ref atw, .long mx, .long my, .ref aup, .ref alw, .int (nI nm), .long up, .long lo, .long rx, .long ry])), (asd, .inl (cJ, 64, .inr (.inl fsd))), (amv, .inl (cJ, 32, .inr (.inl fmv)))] H := hP
              have hD : va_D A [(om, .inr (5, [.int (nI 2), .int (nI ns), .ref apx, .ref apy, .ref act, .int (nI nb), .ref asd, .ref amv, .ref asl, .ref apl, .ref asw, .int (nI nw), .ref aor, .int (nI nc), .ref aon, .ref atw, .long mx, .long my, .ref aup, .ref alw, .int (nI nm), .long up, .long lo, .long rx, .long ry])), (asd, .inl (cJ, 64, .inr (.inl fsd))), (amv, .inl (cJ, 32, .inr (.inl fmv)))] := hD
              refine lv_aload_n hx hb dX5_box_66 rfl (lv_at hl 0 rfl) ?_
              refine va_get (D := (dC, dI)) (ci := 5) (v := .int (nI 2)) (C := RX5) (T := TX5) (N := 25) hx hb hts hi5 hown hK hP 0 rfl rfl 0 (by decide) f54 (fun _ h9 => h9) rfl dX5_box_67 ?_
              refine lv_if_le (tgt := 75) hx hb dX5_box_70 (by decide) (fun c70 => ?_) (fun c70 => ?_)
              · skip
                exact absurd c70 (by decide)
              · rw [← nI_0, nI_leI (by omega) (by omega), Nat.not_le] at c70
                refine lv_iconst (v := (nI 0)) hx hb dX5_box_73 (by decide) ?_
                exact kEi hx hb hr hlocks hP hK hD hS dX5_box_74 rfl
            · rw [lg_cmp_gt, Int64.not_lt] at c48
              refine lv_lload_n hx hb dX5_box_51 rfl (lv_at hl 2 rfl) ?_
              refine lv_lload hx hb dX5_box_52 (lv_at hl 4 rfl) ?_
              refine W.lcmp hx hb dX5_box_54 ?_
              refine lv_if_gt (tgt := 62) hx hb dX5_box_55 (by decide) (fun c55 => ?_) (fun c55 => ?_)
              · rw [lg_cmp_gt] at c55
                refine lv_iconst (v := (nI 2)) hx hb dX5_box_62 (by decide) ?_
                refine va_put (D := (dC, dI)) (ci := 5) (v := .int (nI 2)) (ty := .int) (C := RX5) (T := TX5) (N := 25) hx hb hts hi5 tyX5 tyX5_ok nmX5 hown hK hP hD hS 0 rfl rfl 0 (by decide) f54 (fun _ h9 => h9) rfl (by decide +kernel) rfl rfl (Nat.le_of_ble_eq_true rfl) dX5_box_63 (fun H locs hP hD hS => ?_)
                have hP : va_P (dC, dI) vwCl [(om, .inr (5, [.int (nI 2), .int (nI ns), .ref apx, .ref apy, .ref act, .int (nI nb), .ref asd, .ref amv, .ref asl, .ref apl, .ref asw, .int (nI nw), .ref aor, .int (nI nc), .ref aon, .ref atw, .long mx, .long my, .ref aup, .ref alw, .int (nI nm), .long up, .long lo, .long rx, .long ry])), (asd, .inl (cJ, 64, .inr (.inl fsd))), (amv, .inl (cJ, 32, .inr (.inl fmv)))] H := hP
                have hD : va_D A [(om, .inr (5, [.int (nI 2), .int (nI ns), .ref apx, .ref apy, .ref act, .int (nI nb), .ref asd, .ref amv, .ref asl, .ref apl, .ref asw, .int (nI nw), .ref aor, .int (nI nc), .ref aon, .ref atw, .long mx, .long my, .ref aup, .ref alw, .int (nI nm), .long up, .long lo, .long rx, .long ry])), (asd, .inl (cJ, 64, .inr (.inl fsd))), (amv, .inl (cJ, 32, .inr (.inl fmv)))] := hD
                refine lv_aload_n hx hb dX5_box_66 rfl (lv_at hl 0 rfl) ?_
                refine va_get (D := (dC, dI)) (ci := 5) (v := .int (nI 2)) (C := RX5) (T := TX5) (N := 25) hx hb hts hi5 hown hK hP 0 rfl rfl 0 (by decide) f54 (fun _ h9 => h9) rfl dX5_box_67 ?_
                refine lv_if_le (tgt := 75) hx hb dX5_box_70 (by decide) (fun c70 => ?_) (fun c70 => ?_)
                · skip
                  exact absurd c70 (by decide)
                · rw [← nI_0, nI_leI (by omega) (by omega), Nat.not_le] at c70
                  refine lv_iconst (v := (nI 0)) hx hb dX5_box_73 (by decide) ?_
                  exact kEi hx hb hr hlocks hP hK hD hS dX5_box_74 rfl
              · rw [lg_cmp_gt, Int64.not_lt] at c55
                exact absurd ⟨c18, c25, c33, c41, c48, c55⟩ hbad
  · rw [nI_eq (by omega) (by omega)] at c7
    exfalso; omega

def mBx (f : Nat → Int64) (b : Nat) (x0 y0 x1 y1 : Int64) : Nat → Int64 := vp_updL (vp_updL (vp_updL (vp_updL f b x0) (b + 1) y0) (b + 2) x1) (b + 3) y1
def mMv (f : Nat → Int64) (b : Nat) (dx dy : Int64) : Nat → Int64 := vp_updL (vp_updL f b dx) (b + 1) dy
set_option maxHeartbeats 4000000 in
set_option maxRecDepth 100000 in
theorem tX5_box_o (l : Launch) (dC : Nat → ClassId) (dI : Nat → Nat → Nat) (cJ cI cZ : ClassId) (om cd ns apx apy act nb asd amv asl apl asw nw aor nc aon atw aup alw nm : Nat) (mx my up lo rx ry : Int64) (fsd : Nat → Int64) (fmv : Nat → Int64) (x0 y0 x1 y1 : Int64) (hs : nb < 16) (hok : (-10000 ≤ x0 ∧ x0 ≤ 10000) ∧ (-10000 ≤ y0 ∧ y0 ≤ 10000) ∧ (-10000 ≤ x1 ∧ x1 ≤ 10000) ∧ (-10000 ≤ y1 ∧ y1 ≤ 10000) ∧ x0 ≤ x1 ∧ y0 ≤ y1) : MMi l yX5_box wsX5_box { frames := 1, cells := 0, slots := 0, locals := 21 } [.ref om, .long x0, .long y0, .long x1, .long y1] (dC, dI) [(om, .inr (5, [.int (nI cd), .int (nI ns), .ref apx, .ref apy, .ref act, .int (nI nb), .ref asd, .ref amv, .ref asl, .ref apl, .ref asw, .int (nI nw), .ref aor, .int (nI nc), .ref aon, .ref atw, .long mx, .long my, .ref aup, .ref alw, .int (nI nm), .long up, .long lo, .long rx, .long ry])), (asd, .inl (cJ, 64, .inr (.inl fsd))), (amv, .inl (cJ, 32, .inr (.inl fmv)))] [(om, .inr (5, [.int (nI 0), .int (nI ns), .ref apx, .ref apy, .ref act, .int (nI (nb + 1)), .ref asd, .ref amv, .ref asl, .ref apl, .ref asw, .int (nI nw), .ref aor, .int (nI nc), .ref aon, .ref atw, .long mx, .long my, .ref aup, .ref alw, .int (nI nm), .long up, .long lo, .long rx, .long ry])), (asd, .inl (cJ, 64, .inr (.inl (mBx fsd (4 * nb) x0 y0 x1 y1)))), (amv, .inl (cJ, 32, .inr (.inl (mMv fmv (2 * nb) 0 0))))] [(cJ, .long), (cI, .int), (cZ, .boolean)] (nI nb) := by
  intro sz
  refine kOf (cc := cX5_box) (maxL := 9) (ret := (some .int)) (by decide) rfl (Nat.le_of_ble_eq_true rfl) ?_
  intro p e s m below meth c hx hb hr hml hts hown hlocks hB ls hl
  obtain ⟨hsz, hP, hK, hD0⟩ := hB
  subst hsz
  have hD := hD0.self (sz := s.heap.size)
  generalize hAe : va_A [(om, .inr (5, [.int (nI cd), .int (nI ns), .ref apx, .ref apy, .ref act, .int (nI nb), .ref asd, .ref amv, .ref asl, .ref apl, .ref asw, .int (nI nw), .ref aor, .int (nI nc), .ref aon, .ref atw, .long mx, .long my, .ref aup, .ref alw, .int (nI nm), .long up, .long lo, .long rx, .long ry])), (asd, .inl (cJ, 64, .inr (.inl fsd))), (amv, .inl (cJ, 32, .inr (.inl fmv)))] s.heap.size = A at hD ⊢
  have hA : ∀ q : Nat, s.heap.size ≤ q → A q := fun q h => by rw [← hAe]; exact Or.inr h
  have hS : va_S A s.heap s.heap [] := va_S.rf
  have hl : lv_has ls 9 [(0, .ref om), (1, .long x0), (3, .long y0), (5, .long x1), (7, .long y1)] := hl
  have hi5 : ∀ w ∈ u_ws RX5 TX5 25, w ∈ wsX5_box := by decide +kernel
  have f20 := hts (.fieldLink RX5 20 "SweptBoxesModel" "sides" "[J") (by decide +kernel)
  have f23 := hts (.fieldLink RX5 23 "SweptBoxesModel" "moves" "[J") (by decide +kernel)
  have f54 := hts (.fieldLink RX5 54 "SweptBoxesModel" "code" "I") (by decide +kernel)
  have f61 := hts (.fieldLink RX5 61 "SweptBoxesModel" "boxes" "I") (by decide +kernel)
  refine lv_aload_n hx hb dX5_box_0 rfl (lv_at hl 0 rfl) ?_
  refine lv_aload_n hx hb dX5_box_1 rfl (lv_at hl 0 rfl) ?_
  refine va_get (D := (dC, dI)) (ci := 5) (v := .int (nI nb)) (C := RX5) (T := TX5) (N := 25) hx hb hts hi5 hown hK hP 0 rfl rfl 5 (by decide) f61 (fun _ h9 => h9) rfl dX5_box_2 ?_
  refine lv_bipush (v := (nI 16)) hx hb dX5_box_5 (by decide) ?_
  refine lv_icmp_ne (tgt := 14) hx hb dX5_box_7 (by decide) (fun c7 => ?_) (fun c7 => ?_)
  · rw [nI_eq (by omega) (by omega)] at c7
    refine lv_lload_n hx hb dX5_box_14 rfl (lv_at hl 1 rfl) ?_
    refine kpSi (As := [.long x0]) (rest := [.ref om]) (WC := []) (tyC := []) ⟨hx, hb, hml, hown, hts⟩ (tX5_isIn l dC dI x0) (cwS 1 hts gX5_box_X5_isIn rfl rfl rfl (by decide +kernel) ⟨Nat.le_of_ble_eq_true rfl, Nat.le_of_ble_eq_true rfl⟩) (kPick (isC := []) hP rfl) (hK.sub [] rfl) rfl rfl hl.1 (Nat.le_of_ble_eq_true rfl) dX5_box_15 ⟨Nat.le_of_ble_eq_true rfl, Nat.le_of_ble_eq_true rfl⟩ ?_
    refine lv_if_eq (tgt := 62) hx hb dX5_box_18 (by decide) (fun c18 => ?_) (fun c18 => ?_)
    · replace c18 := bI_0 c18; replace c18 := of_decide_eq_false c18
      exact absurd hok.1 c18
    · replace c18 := bI_n c18; replace c18 := of_decide_eq_true c18
      refine lv_lload_n hx hb dX5_box_21 rfl (lv_at hl 2 rfl) ?_
      refine kpSi (As := [.long y0]) (rest := [.ref om]) (WC := []) (tyC := []) ⟨hx, hb, hml, hown, hts⟩ (tX5_isIn l dC dI y0) (cwS 1 hts gX5_box_X5_isIn rfl rfl rfl (by decide +kernel) ⟨Nat.le_of_ble_eq_true rfl, Nat.le_of_ble_eq_true rfl⟩) (kPick (isC := []) hP rfl) (hK.sub [] rfl) rfl rfl hl.1 (Nat.le_of_ble_eq_true rfl) dX5_box_22 ⟨Nat.le_of_ble_eq_true rfl, Nat.le_of_ble_eq_true rfl⟩ ?_
      refine lv_if_eq (tgt := 62) hx hb dX5_box_25 (by decide) (fun c25 => ?_) (fun c25 => ?_)
      · replace c25 := bI_0 c25; replace c25 := of_decide_eq_false c25
        exact absurd hok.2.1 c25
      · replace c25 := bI_n c25; replace c25 := of_decide_eq_true c25
        refine lv_lload hx hb dX5_box_28 (lv_at hl 3 rfl) ?_
        refine kpSi (As := [.long x1]) (rest := [.ref om]) (WC := []) (tyC := []) ⟨hx, hb, hml, hown, hts⟩ (tX5_isIn l dC dI x1) (cwS 1 hts gX5_box_X5_isIn rfl rfl rfl (by decide +kernel) ⟨Nat.le_of_ble_eq_true rfl, Nat.le_of_ble_eq_true rfl⟩) (kPick (isC := []) hP rfl) (hK.sub [] rfl) rfl rfl hl.1 (Nat.le_of_ble_eq_true rfl) dX5_box_30 ⟨Nat.le_of_ble_eq_true rfl, Nat.le_of_ble_eq_true rfl⟩ ?_
        refine lv_if_eq (tgt := 62) hx hb dX5_box_33 (by decide) (fun c33 => ?_) (fun c33 => ?_)
        · replace c33 := bI_0 c33; replace c33 := of_decide_eq_false c33
          exact absurd hok.2.2.1 c33
        · replace c33 := bI_n c33; replace c33 := of_decide_eq_true c33
          refine lv_lload hx hb dX5_box_36 (lv_at hl 4 rfl) ?_
          refine kpSi (As := [.long y1]) (rest := [.ref om]) (WC := []) (tyC := []) ⟨hx, hb, hml, hown, hts⟩ (tX5_isIn l dC dI y1) (cwS 1 hts gX5_box_X5_isIn rfl rfl rfl (by decide +kernel) ⟨Nat.le_of_ble_eq_true rfl, Nat.le_of_ble_eq_true rfl⟩) (kPick (isC := []) hP rfl) (hK.sub [] rfl) rfl rfl hl.1 (Nat.le_of_ble_eq_true rfl) dX5_box_38 ⟨Nat.le_of_ble_eq_true rfl, Nat.le_of_ble_eq_true rfl⟩ ?_
          refine lv_if_eq (tgt := 62) hx hb dX5_box_41 (by decide) (fun c41 => ?_) (fun c41 => ?_)
          · replace c41 := bI_0 c41; replace c41 := of_decide_eq_false c41
            exact absurd hok.2.2.2.1 c41
          · replace c41 := bI_n c41; replace c41 := of_decide_eq_true c41
            refine lv_lload_n hx hb dX5_box_44 rfl (lv_at hl 1 rfl) ?_
            refine lv_lload hx hb dX5_box_45 (lv_at hl 3 rfl) ?_
            refine W.lcmp hx hb dX5_box_47 ?_
            refine lv_if_gt (tgt := 62) hx hb dX5_box_48 (by decide) (fun c48 => ?_) (fun c48 => ?_)
            · rw [lg_cmp_gt] at c48
              exact absurd hok.2.2.2.2.1 (Int64.not_le.mpr c48)
            · rw [lg_cmp_gt, Int64.not_lt] at c48
              refine lv_lload_n hx hb dX5_box_51 rfl (lv_at hl 2 rfl) ?_
              refine lv_lload hx hb dX5_box_52 (lv_at hl 4 rfl) ?_
              refine W.lcmp hx hb dX5_box_54 ?_
              refine lv_if_gt (tgt := 62) hx hb dX5_box_55 (by decide) (fun c55 => ?_) (fun c55 => ?_)
              · rw [lg_cmp_gt] at c55
                exact absurd hok.2.2.2.2.2 (Int64.not_le.mpr c55)
              · rw [lg_cmp_gt, Int64.not_lt] at c55
                refine lv_iconst (v := (nI 0)) hx hb dX5_box_58 (by decide) ?_
                refine lv_goto (tgt := 63) hx hb dX5_box_59 (by decide) ?_
                refine va_put (D := (dC, dI)) (ci := 5) (v := .int (nI 0)) (ty := .int) (C := RX5) (T := TX5) (N := 25) hx hb hts hi5 tyX5 tyX5_ok nmX5 hown hK hP hD hS 0 rfl rfl 0 (by decide) f54 (fun _ h9 => h9) rfl (by decide +kernel) rfl rfl (Nat.le_of_ble_eq_true rfl) dX5_box_63 (fun H locs hP hD hS => ?_)
                have hP : va_P (dC, dI) vwCl [(om, .inr (5, [.int (nI 0), .int (nI ns), .ref apx, .ref apy, .ref act, .int (nI nb), .ref asd, .ref amv, .ref asl, .ref apl, .ref asw, .int (nI nw), .ref aor, .int (nI nc), .ref aon, .ref atw, .long mx, .long my, .ref aup, .ref alw, .int (nI nm), .long up, .long lo, .long rx, .long ry])), (asd, .inl (cJ, 64, .inr (.inl fsd))), (amv, .inl (cJ, 32, .inr (.inl fmv)))] H := hP
                have hD : va_D A [(om, .inr (5, [.int (nI 0), .int (nI ns), .ref apx, .ref apy, .ref act, .int (nI nb), .ref asd, .ref amv, .ref asl, .ref apl, .ref asw, .int (nI nw), .ref aor, .int (nI nc), .ref aon, .ref atw, .long mx, .long my, .ref aup, .ref alw, .int (nI nm), .long up, .long lo, .long rx, .long ry])), (asd, .inl (cJ, 64, .inr (.inl fsd))), (amv, .inl (cJ, 32, .inr (.inl fmv)))] := hD
                refine lv_aload_n hx hb dX5_box_66 rfl (lv_at hl 0 rfl) ?_
                refine va_get (D := (dC, dI)) (ci := 5) (v := .int (nI 0)) (C := RX5) (T := TX5) (N := 25) hx hb hts hi5 hown hK hP 0 rfl rfl 0 (by decide) f54 (fun _ h9 => h9) rfl dX5_box_67 ?_
                refine lv_if_le (tgt := 75) hx hb dX5_box_70 (by decide) (fun c70 => ?_) (fun c70 => ?_)
                · rw [← nI_0, nI_leI (by omega) (by omega)] at c70
                  refine lv_aload_n hx hb dX5_box_75 rfl (lv_at hl 0 rfl) ?_
                  refine va_get (D := (dC, dI)) (ci := 5) (v := .ref asd) (C := RX5) (T := TX5) (N := 25) hx hb hts hi5 hown hK hP 0 rfl rfl 6 (by decide) f20 (fun _ h9 => h9) rfl dX5_box_76 ?_
                  refine lv_iconst (v := (nI 4)) hx hb dX5_box_79 (by decide) ?_
                  refine lv_aload_n hx hb dX5_box_80 rfl (lv_at hl 0 rfl) ?_
                  refine va_get (D := (dC, dI)) (ci := 5) (v := .int (nI nb)) (C := RX5) (T := TX5) (N := 25) hx hb hts hi5 hown hK hP 0 rfl rfl 5 (by decide) f61 (fun _ h9 => h9) rfl dX5_box_81 ?_
                  refine lv_imul hx hb dX5_box_84 ?_
                  rw [show (nI 4) * (nI nb) = (nI (4 * nb)) from pk_mul 4 nb]
                  refine lv_lload_n hx hb dX5_box_85 rfl (lv_at hl 1 rfl) ?_
                  refine va_last hx hb hK hP hD hS 1 0 rfl rfl (vp_in_nI (show (4 * nb) < 64 by omega) (by omega)) dX5_box_86 (fun H locs hP hD hS => ?_)
                  rw [show (nI (4 * nb)).toNatClampNeg = (4 * nb) from nI_clamp (show (4 * nb) < 2 ^ 31 by omega)] at hP hD
                  have hP : va_P (dC, dI) vwCl [(om, .inr (5, [.int (nI 0), .int (nI ns), .ref apx, .ref apy, .ref act, .int (nI nb), .ref asd, .ref amv, .ref asl, .ref apl, .ref asw, .int (nI nw), .ref aor, .int (nI nc), .ref aon, .ref atw, .long mx, .long my, .ref aup, .ref alw, .int (nI nm), .long up, .long lo, .long rx, .long ry])), (asd, .inl (cJ, 64, .inr (.inl (vp_updL fsd ((4 * nb)) x0)))), (amv, .inl (cJ, 32, .inr (.inl fmv)))] H := hP
                  have hD : va_D A [(om, .inr (5, [.int (nI 0), .int (nI ns), .ref apx, .ref apy, .ref act, .int (nI nb), .ref asd, .ref amv, .ref asl, .ref apl, .ref asw, .int (nI nw), .ref aor, .int (nI nc), .ref aon, .ref atw, .long mx, .long my, .ref aup, .ref alw, .int (nI nm), .long up, .long lo, .long rx, .long ry])), (asd, .inl (cJ, 64, .inr (.inl (vp_updL fsd ((4 * nb)) x0)))), (amv, .inl (cJ, 32, .inr (.inl fmv)))] := hD
                  refine lv_aload_n hx hb dX5_box_87 rfl (lv_at hl 0 rfl) ?_
                  refine va_get (D := (dC, dI)) (ci := 5) (v := .ref asd) (C := RX5) (T := TX5) (N := 25) hx hb hts hi5 hown hK hP 0 rfl rfl 6 (by decide) f20 (fun _ h9 => h9) rfl dX5_box_88 ?_
                  refine lv_iconst (v := (nI 4)) hx hb dX5_box_91 (by decide) ?_
                  refine lv_aload_n hx hb dX5_box_92 rfl (lv_at hl 0 rfl) ?_
                  refine va_get (D := (dC, dI)) (ci := 5) (v := .int (nI nb)) (C := RX5) (T := TX5) (N := 25) hx hb hts hi5 hown hK hP 0 rfl rfl 5 (by decide) f61 (fun _ h9 => h9) rfl dX5_box_93 ?_
                  refine lv_imul hx hb dX5_box_96 ?_
                  rw [show (nI 4) * (nI nb) = (nI (4 * nb)) from pk_mul 4 nb]
                  refine lv_iconst (v := (nI 1)) hx hb dX5_box_97 (by decide) ?_
                  refine lv_iadd hx hb dX5_box_98 ?_
                  rw [show (nI (4 * nb)) + (nI 1) = (nI (((4 * nb)) + 1)) from nI_add ((4 * nb)) 1]
                  refine lv_lload_n hx hb dX5_box_99 rfl (lv_at hl 2 rfl) ?_
                  refine va_last hx hb hK hP hD hS 1 0 rfl rfl (vp_in_nI (show (((4 * nb)) + 1) < 64 by omega) (by omega)) dX5_box_100 (fun H locs hP hD hS => ?_)
                  rw [show (nI (((4 * nb)) + 1)).toNatClampNeg = (((4 * nb)) + 1) from nI_clamp (show (((4 * nb)) + 1) < 2 ^ 31 by omega)] at hP hD
                  have hP : va_P (dC, dI) vwCl [(om, .inr (5, [.int (nI 0), .int (nI ns), .ref apx, .ref apy, .ref act, .int (nI nb), .ref asd, .ref amv, .ref asl, .ref apl, .ref asw, .int (nI nw), .ref aor, .int (nI nc), .ref aon, .ref atw, .long mx, .long my, .ref aup, .ref alw, .int (nI nm), .long up, .long lo, .long rx, .long ry])), (asd, .inl (cJ, 64, .inr (.inl (vp_updL (vp_updL fsd ((4 * nb)) x0) ((((4 * nb)) + 1)) y0)))), (amv, .inl (cJ, 32, .inr (.inl fmv)))] H := hP
                  have hD : va_D A [(om, .inr (5, [.int (nI 0), .int (nI ns), .ref apx, .ref apy, .ref act, .int (nI nb), .ref asd, .ref amv, .ref asl, .ref apl, .ref asw, .int (nI nw), .ref aor, .int (nI nc), .ref aon, .ref atw, .long mx, .long my, .ref aup, .ref alw, .int (nI nm), .long up, .long lo, .long rx, .long ry])), (asd, .inl (cJ, 64, .inr (.inl (vp_updL (vp_updL fsd ((4 * nb)) x0) ((((4 * nb)) + 1)) y0)))), (amv, .inl (cJ, 32, .inr (.inl fmv)))] := hD
                  refine lv_aload_n hx hb dX5_box_101 rfl (lv_at hl 0 rfl) ?_
                  refine va_get (D := (dC, dI)) (ci := 5) (v := .ref asd) (C := RX5) (T := TX5) (N := 25) hx hb hts hi5 hown hK hP 0 rfl rfl 6 (by decide) f20 (fun _ h9 => h9) rfl dX5_box_102 ?_
                  refine lv_iconst (v := (nI 4)) hx hb dX5_box_105 (by decide) ?_
                  refine lv_aload_n hx hb dX5_box_106 rfl (lv_at hl 0 rfl) ?_
                  refine va_get (D := (dC, dI)) (ci := 5) (v := .int (nI nb)) (C := RX5) (T := TX5) (N := 25) hx hb hts hi5 hown hK hP 0 rfl rfl 5 (by decide) f61 (fun _ h9 => h9) rfl dX5_box_107 ?_
                  refine lv_imul hx hb dX5_box_110 ?_
                  rw [show (nI 4) * (nI nb) = (nI (4 * nb)) from pk_mul 4 nb]
                  refine lv_iconst (v := (nI 2)) hx hb dX5_box_111 (by decide) ?_
                  refine lv_iadd hx hb dX5_box_112 ?_
                  rw [show (nI (4 * nb)) + (nI 2) = (nI (((4 * nb)) + 2)) from nI_add ((4 * nb)) 2]
                  refine lv_lload hx hb dX5_box_113 (lv_at hl 3 rfl) ?_
                  refine va_last hx hb hK hP hD hS 1 0 rfl rfl (vp_in_nI (show (((4 * nb)) + 2) < 64 by omega) (by omega)) dX5_box_115 (fun H locs hP hD hS => ?_)
                  rw [show (nI (((4 * nb)) + 2)).toNatClampNeg = (((4 * nb)) + 2) from nI_clamp (show (((4 * nb)) + 2) < 2 ^ 31 by omega)] at hP hD
                  have hP : va_P (dC, dI) vwCl [(om, .inr (5, [.int (nI 0), .int (nI ns), .ref apx, .ref apy, .ref act, .int (nI nb), .ref asd, .ref amv, .ref asl, .ref apl, .ref asw, .int (nI nw), .ref aor, .int (nI nc), .ref aon, .ref atw, .long mx, .long my, .ref aup, .ref alw, .int (nI nm), .long up, .long lo, .long rx, .long ry])), (asd, .inl (cJ, 64, .inr (.inl (vp_updL (vp_updL (vp_updL fsd ((4 * nb)) x0) ((((4 * nb)) + 1)) y0) ((((4 * nb)) + 2)) x1)))), (amv, .inl (cJ, 32, .inr (.inl fmv)))] H := hP
                  have hD : va_D A [(om, .inr (5, [.int (nI 0), .int (nI ns), .ref apx, .ref apy, .ref act, .int (nI nb), .ref asd, .ref amv, .ref asl, .ref apl, .ref asw, .int (nI nw), .ref aor, .int (nI nc), .ref aon, .ref atw, .long mx, .long my, .ref aup, .ref alw, .int (nI nm), .long up, .long lo, .long rx, .long ry])), (asd, .inl (cJ, 64, .inr (.inl (vp_updL (vp_updL (vp_updL fsd ((4 * nb)) x0) ((((4 * nb)) + 1)) y0) ((((4 * nb)) + 2)) x1)))), (amv, .inl (cJ, 32, .inr (.inl fmv)))] := hD
                  refine lv_aload_n hx hb dX5_box_116 rfl (lv_at hl 0 rfl) ?_
                  refine va_get (D := (dC, dI)) (ci := 5) (v := .ref asd) (C := RX5) (T := TX5) (N := 25) hx hb hts hi5 hown hK hP 0 rfl rfl 6 (by decide) f20 (fun _ h9 => h9) rfl dX5_box_117 ?_
                  refine lv_iconst (v := (nI 4)) hx hb dX5_box_120 (by decide) ?_
                  refine lv_aload_n hx hb dX5_box_121 rfl (lv_at hl 0 rfl) ?_
                  refine va_get (D := (dC, dI)) (ci := 5) (v := .int (nI nb)) (C := RX5) (T := TX5) (N := 25) hx hb hts hi5 hown hK hP 0 rfl rfl 5 (by decide) f61 (fun _ h9 => h9) rfl dX5_box_122 ?_
                  refine lv_imul hx hb dX5_box_125 ?_
                  rw [show (nI 4) * (nI nb) = (nI (4 * nb)) from pk_mul 4 nb]
                  refine lv_iconst (v := (nI 3)) hx hb dX5_box_126 (by decide) ?_
                  refine lv_iadd hx hb dX5_box_127 ?_
                  rw [show (nI (4 * nb)) + (nI 3) = (nI (((4 * nb)) + 3)) from nI_add ((4 * nb)) 3]
                  refine lv_lload hx hb dX5_box_128 (lv_at hl 4 rfl) ?_
                  refine va_last hx hb hK hP hD hS 1 0 rfl rfl (vp_in_nI (show (((4 * nb)) + 3) < 64 by omega) (by omega)) dX5_box_130 (fun H locs hP hD hS => ?_)
                  rw [show (nI (((4 * nb)) + 3)).toNatClampNeg = (((4 * nb)) + 3) from nI_clamp (show (((4 * nb)) + 3) < 2 ^ 31 by omega)] at hP hD
                  have hP : va_P (dC, dI) vwCl [(om, .inr (5, [.int (nI 0), .int (nI ns), .ref apx, .ref apy, .ref act, .int (nI nb), .ref asd, .ref amv, .ref asl, .ref apl, .ref asw, .int (nI nw), .ref aor, .int (nI nc), .ref aon, .ref atw, .long mx, .long my, .ref aup, .ref alw, .int (nI nm), .long up, .long lo, .long rx, .long ry])), (asd, .inl (cJ, 64, .inr (.inl (vp_updL (vp_updL (vp_updL (vp_updL fsd ((4 * nb)) x0) ((((4 * nb)) + 1)) y0) ((((4 * nb)) + 2)) x1) ((((4 * nb)) + 3)) y1)))), (amv, .inl (cJ, 32, .inr (.inl fmv)))] H := hP
                  have hD : va_D A [(om, .inr (5, [.int (nI 0), .int (nI ns), .ref apx, .ref apy, .ref act, .int (nI nb), .ref asd, .ref amv, .ref asl, .ref apl, .ref asw, .int (nI nw), .ref aor, .int (nI nc), .ref aon, .ref atw, .long mx, .long my, .ref aup, .ref alw, .int (nI nm), .long up, .long lo, .long rx, .long ry])), (asd, .inl (cJ, 64, .inr (.inl (vp_updL (vp_updL (vp_updL (vp_updL fsd ((4 * nb)) x0) ((((4 * nb)) + 1)) y0) ((((4 * nb)) + 2)) x1) ((((4 * nb)) + 3)) y1)))), (amv, .inl (cJ, 32, .inr (.inl fmv)))] := hD
                  refine lv_aload_n hx hb dX5_box_131 rfl (lv_at hl 0 rfl) ?_
                  refine va_get (D := (dC, dI)) (ci := 5) (v := .ref amv) (C := RX5) (T := TX5) (N := 25) hx hb hts hi5 hown hK hP 0 rfl rfl 7 (by decide) f23 (fun _ h9 => h9) rfl dX5_box_132 ?_
                  refine lv_iconst (v := (nI 2)) hx hb dX5_box_135 (by decide) ?_
                  refine lv_aload_n hx hb dX5_box_136 rfl (lv_at hl 0 rfl) ?_
                  refine va_get (D := (dC, dI)) (ci := 5) (v := .int (nI nb)) (C := RX5) (T := TX5) (N := 25) hx hb hts hi5 hown hK hP 0 rfl rfl 5 (by decide) f61 (fun _ h9 => h9) rfl dX5_box_137 ?_
                  refine lv_imul hx hb dX5_box_140 ?_
                  rw [show (nI 2) * (nI nb) = (nI (2 * nb)) from pk_mul 2 nb]
                  refine lv_lconst (v := 0) hx hb dX5_box_141 (by decide) ?_
                  refine va_last hx hb hK hP hD hS 2 0 rfl rfl (vp_in_nI (show (2 * nb) < 32 by omega) (by omega)) dX5_box_142 (fun H locs hP hD hS => ?_)
                  rw [show (nI (2 * nb)).toNatClampNeg = (2 * nb) from nI_clamp (show (2 * nb) < 2 ^ 31 by omega)] at hP hD
                  have hP : va_P (dC, dI) vwCl [(om, .inr (5, [.int (nI 0), .int (nI ns), .ref apx, .ref apy, .ref act, .int (nI nb), .ref asd, .ref amv, .ref asl, .ref apl, .ref asw, .int (nI nw), .ref aor, .int (nI nc), .ref aon, .ref atw, .long mx, .long my, .ref aup, .ref alw, .int (nI nm), .long up, .long lo, .long rx, .long ry])), (asd, .inl (cJ, 64, .inr (.inl (vp_updL (vp_updL (vp_updL (vp_updL fsd ((4 * nb)) x0) ((((4 * nb)) + 1)) y0) ((((4 * nb)) + 2)) x1) ((((4 * nb)) + 3)) y1)))), (amv, .inl (cJ, 32, .inr (.inl (vp_updL fmv ((2 * nb)) 0))))] H := hP
                  have hD : va_D A [(om, .inr (5, [.int (nI 0), .int (nI ns), .ref apx, .ref apy, .ref act, .int (nI nb), .ref asd, .ref amv, .ref asl, .ref apl, .ref asw, .int (nI nw), .ref aor, .int (nI nc), .ref aon, .ref atw, .long mx, .long my, .ref aup, .ref alw, .int (nI nm), .long up, .long lo, .long rx, .long ry])), (asd, .inl (cJ, 64, .inr (.inl (vp_updL (vp_updL (vp_updL (vp_updL fsd ((4 * nb)) x0) ((((4 * nb)) + 1)) y0) ((((4 * nb)) + 2)) x1) ((((4 * nb)) + 3)) y1)))), (amv, .inl (cJ, 32, .inr (.inl (vp_updL fmv ((2 * nb)) 0))))] := hD
                  refine lv_aload_n hx hb dX5_box_143 rfl (lv_at hl 0 rfl) ?_
                  refine va_get (D := (dC, dI)) (ci := 5) (v := .ref amv) (C := RX5) (T := TX5) (N := 25) hx hb hts hi5 hown hK hP 0 rfl rfl 7 (by decide) f23 (fun _ h9 => h9) rfl dX5_box_144 ?_
                  refine lv_iconst (v := (nI 2)) hx hb dX5_box_147 (by decide) ?_
                  refine lv_aload_n hx hb dX5_box_148 rfl (lv_at hl 0 rfl) ?_
                  refine va_get (D := (dC, dI)) (ci := 5) (v := .int (nI nb)) (C := RX5) (T := TX5) (N := 25) hx hb hts hi5 hown hK hP 0 rfl rfl 5 (by decide) f61 (fun _ h9 => h9) rfl dX5_box_149 ?_
                  refine lv_imul hx hb dX5_box_152 ?_
                  rw [show (nI 2) * (nI nb) = (nI (2 * nb)) from pk_mul 2 nb]
                  refine lv_iconst (v := (nI 1)) hx hb dX5_box_153 (by decide) ?_
                  refine lv_iadd hx hb dX5_box_154 ?_
                  rw [show (nI (2 * nb)) + (nI 1) = (nI (((2 * nb)) + 1)) from nI_add ((2 * nb)) 1]
                  refine lv_lconst (v := 0) hx hb dX5_box_155 (by decide) ?_
                  refine va_last hx hb hK hP hD hS 2 0 rfl rfl (vp_in_nI (show (((2 * nb)) + 1) < 32 by omega) (by omega)) dX5_box_156 (fun H locs hP hD hS => ?_)
                  rw [show (nI (((2 * nb)) + 1)).toNatClampNeg = (((2 * nb)) + 1) from nI_clamp (show (((2 * nb)) + 1) < 2 ^ 31 by omega)] at hP hD
                  have hP : va_P (dC, dI) vwCl [(om, .inr (5, [.int (nI 0), .int (nI ns), .ref apx, .ref apy, .ref act, .int (nI nb), .ref asd, .ref amv, .ref asl, .ref apl, .ref asw, .int (nI nw), .ref aor, .int (nI nc), .ref aon, .ref atw, .long mx, .long my, .ref aup, .ref alw, .int (nI nm), .long up, .long lo, .long rx, .long ry])), (asd, .inl (cJ, 64, .inr (.inl (vp_updL (vp_updL (vp_updL (vp_updL fsd ((4 * nb)) x0) ((((4 * nb)) + 1)) y0) ((((4 * nb)) + 2)) x1) ((((4 * nb)) + 3)) y1)))), (amv, .inl (cJ, 32, .inr (.inl (vp_updL (vp_updL fmv ((2 * nb)) 0) ((((2 * nb)) + 1)) 0))))] H := hP
                  have hD : va_D A [(om, .inr (5, [.int (nI 0), .int (nI ns), .ref apx, .ref apy, .ref act, .int (nI nb), .ref asd, .ref amv, .ref asl, .ref apl, .ref asw, .int (nI nw), .ref aor, .int (nI nc), .ref aon, .ref atw, .long mx, .long my, .ref aup, .ref alw, .int (nI nm), .long up, .long lo, .long rx, .long ry])), (asd, .inl (cJ, 64, .inr (.inl (vp_updL (vp_updL (vp_updL (vp_updL fsd ((4 * nb)) x0) ((((4 * nb)) + 1)) y0) ((((4 * nb)) + 2)) x1) ((((4 * nb)) + 3)) y1)))), (amv, .inl (cJ, 32, .inr (.inl (vp_updL (vp_updL fmv ((2 * nb)) 0) ((((2 * nb)) + 1)) 0))))] := hD
                  refine lv_aload_n hx hb dX5_box_157 rfl (lv_at hl 0 rfl) ?_
                  refine lv_dup hx hb dX5_box_158 rfl ?_
                  refine va_get (D := (dC, dI)) (ci := 5) (v := .int (nI nb)) (C := RX5) (T := TX5) (N := 25) hx hb hts hi5 hown hK hP 0 rfl rfl 5 (by decide) f61 (fun _ h9 => h9) rfl dX5_box_159 ?_
                  refine lv_iconst (v := (nI 1)) hx hb dX5_box_162 (by decide) ?_
                  refine lv_iadd hx hb dX5_box_163 ?_
                  rw [show (nI nb) + (nI 1) = (nI (nb + 1)) from nI_add nb 1]
                  refine va_put (D := (dC, dI)) (ci := 5) (v := .int (nI (nb + 1))) (ty := .int) (C := RX5) (T := TX5) (N := 25) hx hb hts hi5 tyX5 tyX5_ok nmX5 hown hK hP hD hS 0 rfl rfl 5 (by decide) f61 (fun _ h9 => h9) rfl (by decide +kernel) rfl rfl (Nat.le_of_ble_eq_true rfl) dX5_box_164 (fun H locs hP hD hS => ?_)
                  have hP : va_P (dC, dI) vwCl [(om, .inr (5, [.int (nI 0), .int (nI ns), .ref apx, .ref apy, .ref act, .int (nI (nb + 1)), .ref asd, .ref amv, .ref asl, .ref apl, .ref asw, .int (nI nw), .ref aor, .int (nI nc), .ref aon, .ref atw, .long mx, .long my, .ref aup, .ref alw, .int (nI nm), .long up, .long lo, .long rx, .long ry])), (asd, .inl (cJ, 64, .inr (.inl (vp_updL (vp_updL (vp_updL (vp_updL fsd ((4 * nb)) x0) ((((4 * nb)) + 1)) y0) ((((4 * nb)) + 2)) x1) ((((4 * nb)) + 3)) y1)))), (amv, .inl (cJ, 32, .inr (.inl (vp_updL (vp_updL fmv ((2 * nb)) 0) ((((2 * nb)) + 1)) 0))))] H := hP
                  have hD : va_D A [(om, .inr (5, [.int (nI 0), .int (nI ns), .ref apx, .ref apy, .ref act, .int (nI (nb + 1)), .ref asd, .ref amv, .ref asl, .ref apl, .ref asw, .int (nI nw), .ref aor, .int (nI nc), .ref aon, .ref atw, .long mx, .long my, .ref aup, .ref alw, .int (nI nm), .long up, .long lo, .long rx, .long ry])), (asd, .inl (cJ, 64, .inr (.inl (vp_updL (vp_updL (vp_updL (vp_updL fsd ((4 * nb)) x0) ((((4 * nb)) + 1)) y0) ((((4 * nb)) + 2)) x1) ((((4 * nb)) + 3)) y1)))), (amv, .inl (cJ, 32, .inr (.inl (vp_updL (vp_updL fmv ((2 * nb)) 0) ((((2 * nb)) + 1)) 0))))] := hD
                  refine lv_aload_n hx hb dX5_box_167 rfl (lv_at hl 0 rfl) ?_
                  refine va_get (D := (dC, dI)) (ci := 5) (v := .int (nI (nb + 1))) (C := RX5) (T := TX5) (N := 25) hx hb hts hi5 hown hK hP 0 rfl rfl 5 (by decide) f61 (fun _ h9 => h9) rfl dX5_box_168 ?_
                  refine lv_iconst (v := (nI 1)) hx hb dX5_box_171 (by decide) ?_
                  refine lv_isub hx hb dX5_box_172 ?_
                  rw [show (nI (nb + 1)) - (nI 1) = (nI (((nb + 1)) - 1)) from pk_sub (show 1 ≤ (nb + 1) by omega)]
                  exact kEi hx hb hr hlocks hP hK hD hS dX5_box_173 rfl
                · skip
                  exact absurd c70 (by decide)
  · rw [nI_eq (by omega) (by omega)] at c7
    exfalso; omega

set_option maxHeartbeats 4000000 in
set_option maxRecDepth 100000 in
theorem tX5_move_e1 (l : Launch) (dC : Nat → ClassId) (dI : Nat → Nat → Nat) (cJ cI cZ : ClassId) (om cd ns apx apy act nb asd amv asl apl asw nw aor nc aon atw aup alw nm : Nat) (mx my up lo rx ry : Int64) (fmv : Nat → Int64) (si : Int32) (dx dy : Int64) (hs : ¬ (0 ≤ si ∧ si < nI nb)) : MMi l yX5_move wsX5_move { frames := 1, cells := 0, slots := 0, locals := 21 } [.ref om, .int si, .long dx, .long dy] (dC, dI) [(om, .inr (5, [.int (nI cd), .int (nI ns), .ref apx, .ref apy, .ref act, .int (nI nb), .ref asd, .ref amv, .ref asl, .ref apl, .ref asw, .int (nI nw), .ref aor, .int (nI nc), .ref aon, .ref atw, .long mx, .long my, .ref aup, .ref alw, .int (nI nm), .long up, .long lo, .long rx, .long ry])), (amv, .inl (cJ, 32, .inr (.inl fmv)))] [(om, .inr (5, [.int (nI 1), .int (nI ns), .ref apx, .ref apy, .ref act, .int (nI nb), .ref asd, .ref amv, .ref asl, .ref apl, .ref asw, .int (nI nw), .ref aor, .int (nI nc), .ref aon, .ref atw, .long mx, .long my, .ref aup, .ref alw, .int (nI nm), .long up, .long lo, .long rx, .long ry])), (amv, .inl (cJ, 32, .inr (.inl fmv)))] [(cJ, .long), (cI, .int), (cZ, .boolean)] (bI false) := by
  intro sz
  refine kOf (cc := cX5_move) (maxL := 6) (ret := (some .boolean)) (by decide) rfl (Nat.le_of_ble_eq_true rfl) ?_
  intro p e s m below meth c hx hb hr hml hts hown hlocks hB ls hl
  obtain ⟨hsz, hP, hK, hD0⟩ := hB
  subst hsz
  have hD := hD0.self (sz := s.heap.size)
  generalize hAe : va_A [(om, .inr (5, [.int (nI cd), .int (nI ns), .ref apx, .ref apy, .ref act, .int (nI nb), .ref asd, .ref amv, .ref asl, .ref apl, .ref asw, .int (nI nw), .ref aor, .int (nI nc), .ref aon, .ref atw, .long mx, .long my, .ref aup, .ref alw, .int (nI nm), .long up, .long lo, .long rx, .long ry])), (amv, .inl (cJ, 32, .inr (.inl fmv)))] s.heap.size = A at hD ⊢
  have hA : ∀ q : Nat, s.heap.size ≤ q → A q := fun q h => by rw [← hAe]; exact Or.inr h
  have hS : va_S A s.heap s.heap [] := va_S.rf
  have hl : lv_has ls 6 [(0, .ref om), (1, .int si), (2, .long dx), (4, .long dy)] := hl
  have hi5 : ∀ w ∈ u_ws RX5 TX5 25, w ∈ wsX5_move := by decide +kernel
  have f54 := hts (.fieldLink RX5 54 "SweptBoxesModel" "code" "I") (by decide +kernel)
  refine lv_aload_n hx hb dX5_move_0 rfl (lv_at hl 0 rfl) ?_
  refine lv_aload_n hx hb dX5_move_1 rfl (lv_at hl 0 rfl) ?_
  refine lv_iload_n hx hb dX5_move_2 rfl (lv_at hl 1 rfl) ?_
  refine kpVi (q0 := 0) (ci := 5) (As := [.int si]) (rest := [.ref om]) (WC := [(om, .inr (5, [.int (nI cd), .int (nI ns), .ref apx, .ref apy, .ref act, .int (nI nb), .ref asd, .ref amv, .ref asl, .ref apl, .ref asw, .int (nI nw), .ref aor, .int (nI nc), .ref aon, .ref atw, .long mx, .long my, .ref aup, .ref alw, .int (nI nm), .long up, .long lo, .long rx, .long ry]))]) (tyC := [(cJ, .long), (cI, .int), (cZ, .boolean)]) ⟨hx, hb, hml, hown, hts⟩ (tX5_isBox l dC dI cJ cI cZ om cd ns apx apy act nb asd amv asl apl asw nw aor nc aon atw aup alw nm mx my up lo rx ry si) (cwV 1 hts gX5_move_X5_isBox rfl rfl rfl (by decide +kernel) ⟨Nat.le_of_ble_eq_true rfl, Nat.le_of_ble_eq_true rfl⟩) (kPick (isC := [0]) hP rfl) (hK.sub [0, 1, 2] rfl) rfl rfl rfl rfl hl.1 (Nat.le_of_ble_eq_true rfl) dX5_move_3 ⟨Nat.le_of_ble_eq_true rfl, Nat.le_of_ble_eq_true rfl⟩ ?_
  refine lv_if_ne (tgt := 13) hx hb dX5_move_6 (by decide) (fun c6 => ?_) (fun c6 => ?_)
  · replace c6 := bI_n c6; replace c6 := of_decide_eq_true c6
    exact absurd c6 hs
  · replace c6 := bI_0 c6; replace c6 := of_decide_eq_false c6
    refine lv_iconst (v := (nI 1)) hx hb dX5_move_9 (by decide) ?_
    refine lv_goto (tgt := 33) hx hb dX5_move_10 (by decide) ?_
    refine va_put (D := (dC, dI)) (ci := 5) (v := .int (nI 1)) (ty := .int) (C := RX5) (T := TX5) (N := 25) hx hb hts hi5 tyX5 tyX5_ok nmX5 hown hK hP hD hS 0 rfl rfl 0 (by decide) f54 (fun _ h9 => h9) rfl (by decide +kernel) rfl rfl (Nat.le_of_ble_eq_true rfl) dX5_move_33 (fun H locs hP hD hS => ?_)
    have hP : va_P (dC, dI) vwCl [(om, .inr (5, [.int (nI 1), .int (nI ns), .ref apx, .ref apy, .ref act, .int (nI nb), .ref asd, .ref amv, .ref asl, .ref apl, .ref asw, .int (nI nw), .ref aor, .int (nI nc), .ref aon, .ref atw, .long mx, .long my, .ref aup, .ref alw, .int (nI nm), .long up, .long lo, .long rx, .long ry])), (amv, .inl (cJ, 32, .inr (.inl fmv)))] H := hP
    have hD : va_D A [(om, .inr (5, [.int (nI 1), .int (nI ns), .ref apx, .ref apy, .ref act, .int (nI nb), .ref asd, .ref amv, .ref asl, .ref apl, .ref asw, .int (nI nw), .ref aor, .int (nI nc), .ref aon, .ref atw, .long mx, .long my, .ref aup, .ref alw, .int (nI nm), .long up, .long lo, .long rx, .long ry])), (amv, .inl (cJ, 32, .inr (.inl fmv)))] := hD
    refine lv_aload_n hx hb dX5_move_36 rfl (lv_at hl 0 rfl) ?_
    refine va_get (D := (dC, dI)) (ci := 5) (v := .int (nI 1)) (C := RX5) (T := TX5) (N := 25) hx hb hts hi5 hown hK hP 0 rfl rfl 0 (by decide) f54 (fun _ h9 => h9) rfl dX5_move_37 ?_
    refine lv_if_gt (tgt := 72) hx hb dX5_move_40 (by decide) (fun c40 => ?_) (fun c40 => ?_)
    · rw [← nI_0, nI_ltI (by omega) (by omega)] at c40
      refine lv_iconst (v := (nI 0)) hx hb dX5_move_72 (by decide) ?_
      exact kEz hx hb hr hlocks hP hK hD hS dX5_move_73 rfl
    · skip
      exact absurd c40 (by decide)

set_option maxHeartbeats 4000000 in
set_option maxRecDepth 100000 in
theorem tX5_move_e2 (l : Launch) (dC : Nat → ClassId) (dI : Nat → Nat → Nat) (cJ cI cZ : ClassId) (om cd ns apx apy act nb asd amv asl apl asw nw aor nc aon atw aup alw nm : Nat) (mx my up lo rx ry : Int64) (fmv : Nat → Int64) (b : Nat) (dx dy : Int64) (hs : b < nb) (hn : nb ≤ 16) (hbad : ¬ ((-10000 ≤ dx ∧ dx ≤ 10000) ∧ (-10000 ≤ dy ∧ dy ≤ 10000))) : MMi l yX5_move wsX5_move { frames := 1, cells := 0, slots := 0, locals := 21 } [.ref om, .int (nI b), .long dx, .long dy] (dC, dI) [(om, .inr (5, [.int (nI cd), .int (nI ns), .ref apx, .ref apy, .ref act, .int (nI nb), .ref asd, .ref amv, .ref asl, .ref apl, .ref asw, .int (nI nw), .ref aor, .int (nI nc), .ref aon, .ref atw, .long mx, .long my, .ref aup, .ref alw, .int (nI nm), .long up, .long lo, .long rx, .long ry])), (amv, .inl (cJ, 32, .inr (.inl fmv)))] [(om, .inr (5, [.int (nI 2), .int (nI ns), .ref apx, .ref apy, .ref act, .int (nI nb), .ref asd, .ref amv, .ref asl, .ref apl, .ref asw, .int (nI nw), .ref aor, .int (nI nc), .ref aon, .ref atw, .long mx, .long my, .ref aup, .ref alw, .int (nI nm), .long up, .long lo, .long rx, .long ry])), (amv, .inl (cJ, 32, .inr (.inl fmv)))] [(cJ, .long), (cI, .int), (cZ, .boolean)] (bI false) := by
  intro sz
  refine kOf (cc := cX5_move) (maxL := 6) (ret := (some .boolean)) (by decide) rfl (Nat.le_of_ble_eq_true rfl) ?_
  intro p e s m below meth c hx hb hr hml hts hown hlocks hB ls hl
  obtain ⟨hsz, hP, hK, hD0⟩ := hB
  subst hsz
  have hD := hD0.self (sz := s.heap.size)
  generalize hAe : va_A [(om, .inr (5, [.int (nI cd), .int (nI ns), .ref apx, .ref apy, .ref act, .int (nI nb), .ref asd, .ref amv, .ref asl, .ref apl, .ref asw, .int (nI nw), .ref aor, .int (nI nc), .ref aon, .ref atw, .long mx, .long my, .ref aup, .ref alw, .int (nI nm), .long up, .long lo, .long rx, .long ry])), (amv, .inl (cJ, 32, .inr (.inl fmv)))] s.heap.size = A at hD ⊢
  have hA : ∀ q : Nat, s.heap.size ≤ q → A q := fun q h => by rw [← hAe]; exact Or.inr h
  have hS : va_S A s.heap s.heap [] := va_S.rf
  have hl : lv_has ls 6 [(0, .ref om), (1, .int (nI b)), (2, .long dx), (4, .long dy)] := hl
  have hi5 : ∀ w ∈ u_ws RX5 TX5 25, w ∈ wsX5_move := by decide +kernel
  have f54 := hts (.fieldLink RX5 54 "SweptBoxesModel" "code" "I") (by decide +kernel)
  refine lv_aload_n hx hb dX5_move_0 rfl (lv_at hl 0 rfl) ?_
  refine lv_aload_n hx hb dX5_move_1 rfl (lv_at hl 0 rfl) ?_
  refine lv_iload_n hx hb dX5_move_2 rfl (lv_at hl 1 rfl) ?_
  refine kpVi (q0 := 0) (ci := 5) (As := [.int (nI b)]) (rest := [.ref om]) (WC := [(om, .inr (5, [.int (nI cd), .int (nI ns), .ref apx, .ref apy, .ref act, .int (nI nb), .ref asd, .ref amv, .ref asl, .ref apl, .ref asw, .int (nI nw), .ref aor, .int (nI nc), .ref aon, .ref atw, .long mx, .long my, .ref aup, .ref alw, .int (nI nm), .long up, .long lo, .long rx, .long ry]))]) (tyC := [(cJ, .long), (cI, .int), (cZ, .boolean)]) ⟨hx, hb, hml, hown, hts⟩ (tX5_isBox l dC dI cJ cI cZ om cd ns apx apy act nb asd amv asl apl asw nw aor nc aon atw aup alw nm mx my up lo rx ry (nI b)) (cwV 1 hts gX5_move_X5_isBox rfl rfl rfl (by decide +kernel) ⟨Nat.le_of_ble_eq_true rfl, Nat.le_of_ble_eq_true rfl⟩) (kPick (isC := [0]) hP rfl) (hK.sub [0, 1, 2] rfl) rfl rfl rfl rfl hl.1 (Nat.le_of_ble_eq_true rfl) dX5_move_3 ⟨Nat.le_of_ble_eq_true rfl, Nat.le_of_ble_eq_true rfl⟩ ?_
  refine lv_if_ne (tgt := 13) hx hb dX5_move_6 (by decide) (fun c6 => ?_) (fun c6 => ?_)
  · replace c6 := bI_n c6; replace c6 := of_decide_eq_true c6
    refine lv_lload_n hx hb dX5_move_13 rfl (lv_at hl 2 rfl) ?_
    refine kpSi (As := [.long dx]) (rest := [.ref om]) (WC := []) (tyC := []) ⟨hx, hb, hml, hown, hts⟩ (tX5_isIn l dC dI dx) (cwS 1 hts gX5_move_X5_isIn rfl rfl rfl (by decide +kernel) ⟨Nat.le_of_ble_eq_true rfl, Nat.le_of_ble_eq_true rfl⟩) (kPick (isC := []) hP rfl) (hK.sub [] rfl) rfl rfl hl.1 (Nat.le_of_ble_eq_true rfl) dX5_move_14 ⟨Nat.le_of_ble_eq_true rfl, Nat.le_of_ble_eq_true rfl⟩ ?_
    refine lv_if_eq (tgt := 32) hx hb dX5_move_17 (by decide) (fun c17 => ?_) (fun c17 => ?_)
    · replace c17 := bI_0 c17; replace c17 := of_decide_eq_false c17
      refine lv_iconst (v := (nI 2)) hx hb dX5_move_32 (by decide) ?_
      refine va_put (D := (dC, dI)) (ci := 5) (v := .int (nI 2)) (ty := .int) (C := RX5) (T := TX5) (N := 25) hx hb hts hi5 tyX5 tyX5_ok nmX5 hown hK hP hD hS 0 rfl rfl 0 (by decide) f54 (fun _ h9 => h9) rfl (by decide +kernel) rfl rfl (Nat.le_of_ble_eq_true rfl) dX5_move_33 (fun H locs hP hD hS => ?_)
      have hP : va_P (dC, dI) vwCl [(om, .inr (5, [.int (nI 2), .int (nI ns), .ref apx, .ref apy, .ref act, .int (nI nb), .ref asd, .ref amv, .ref asl, .ref apl, .ref asw, .int (nI nw), .ref aor, .int (nI nc), .ref aon, .ref atw, .long mx, .long my, .ref aup, .ref alw, .int (nI nm), .long up, .long lo, .long rx, .long ry])), (amv, .inl (cJ, 32, .inr (.inl fmv)))] H := hP
      have hD : va_D A [(om, .inr (5, [.int (nI 2), .int (nI ns), .ref apx, .ref apy, .ref act, .int (nI nb), .ref asd, .ref amv, .ref asl, .ref apl, .ref asw, .int (nI nw), .ref aor, .int (nI nc), .ref aon, .ref atw, .long mx, .long my, .ref aup, .ref alw, .int (nI nm), .long up, .long lo, .long rx, .long ry])), (amv, .inl (cJ, 32, .inr (.inl fmv)))] := hD
      refine lv_aload_n hx hb dX5_move_36 rfl (lv_at hl 0 rfl) ?_
      refine va_get (D := (dC, dI)) (ci := 5) (v := .int (nI 2)) (C := RX5) (T := TX5) (N := 25) hx hb hts hi5 hown hK hP 0 rfl rfl 0 (by decide) f54 (fun _ h9 => h9) rfl dX5_move_37 ?_
      refine lv_if_gt (tgt := 72) hx hb dX5_move_40 (by decide) (fun c40 => ?_) (fun c40 => ?_)
      · rw [← nI_0, nI_ltI (by omega) (by omega)] at c40
        refine lv_iconst (v := (nI 0)) hx hb dX5_move_72 (by decide) ?_
        exact kEz hx hb hr hlocks hP hK hD hS dX5_move_73 rfl
      · skip
        exact absurd c40 (by decide)
    · replace c17 := bI_n c17; replace c17 := of_decide_eq_true c17
      refine lv_lload hx hb dX5_move_20 (lv_at hl 3 rfl) ?_
      refine kpSi (As := [.long dy]) (rest := [.ref om]) (WC := []) (tyC := []) ⟨hx, hb, hml, hown, hts⟩ (tX5_isIn l dC dI dy) (cwS 1 hts gX5_move_X5_isIn rfl rfl rfl (by decide +kernel) ⟨Nat.le_of_ble_eq_true rfl, Nat.le_of_ble_eq_true rfl⟩) (kPick (isC := []) hP rfl) (hK.sub [] rfl) rfl rfl hl.1 (Nat.le_of_ble_eq_true rfl) dX5_move_22 ⟨Nat.le_of_ble_eq_true rfl, Nat.le_of_ble_eq_true rfl⟩ ?_
      refine lv_if_eq (tgt := 32) hx hb dX5_move_25 (by decide) (fun c25 => ?_) (fun c25 => ?_)
      · replace c25 := bI_0 c25; replace c25 := of_decide_eq_false c25
        refine lv_iconst (v := (nI 2)) hx hb dX5_move_32 (by decide) ?_
        refine va_put (D := (dC, dI)) (ci := 5) (v := .int (nI 2)) (ty := .int) (C := RX5) (T := TX5) (N := 25) hx hb hts hi5 tyX5 tyX5_ok nmX5 hown hK hP hD hS 0 rfl rfl 0 (by decide) f54 (fun _ h9 => h9) rfl (by decide +kernel) rfl rfl (Nat.le_of_ble_eq_true rfl) dX5_move_33 (fun H locs hP hD hS => ?_)
        have hP : va_P (dC, dI) vwCl [(om, .inr (5, [.int (nI 2), .int (nI ns), .ref apx, .ref apy, .ref act, .int (nI nb), .ref asd, .ref amv, .ref asl, .ref apl, .ref asw, .int (nI nw), .ref aor, .int (nI nc), .ref aon, .ref atw, .long mx, .long my, .ref aup, .ref alw, .int (nI nm), .long up, .long lo, .long rx, .long ry])), (amv, .inl (cJ, 32, .inr (.inl fmv)))] H := hP
        have hD : va_D A [(om, .inr (5, [.int (nI 2), .int (nI ns), .ref apx, .ref apy, .ref act, .int (nI nb), .ref asd, .ref amv, .ref asl, .ref apl, .ref asw, .int (nI nw), .ref aor, .int (nI nc), .ref aon, .ref atw, .long mx, .long my, .ref aup, .ref alw, .int (nI nm), .long up, .long lo, .long rx, .long ry])), (amv, .inl (cJ, 32, .inr (.inl fmv)))] := hD
        refine lv_aload_n hx hb dX5_move_36 rfl (lv_at hl 0 rfl) ?_
        refine va_get (D := (dC, dI)) (ci := 5) (v := .int (nI 2)) (C := RX5) (T := TX5) (N := 25) hx hb hts hi5 hown hK hP 0 rfl rfl 0 (by decide) f54 (fun _ h9 => h9) rfl dX5_move_37 ?_
        refine lv_if_gt (tgt := 72) hx hb dX5_move_40 (by decide) (fun c40 => ?_) (fun c40 => ?_)
        · rw [← nI_0, nI_ltI (by omega) (by omega)] at c40
          refine lv_iconst (v := (nI 0)) hx hb dX5_move_72 (by decide) ?_
          exact kEz hx hb hr hlocks hP hK hD hS dX5_move_73 rfl
        · skip
          exact absurd c40 (by decide)
      · replace c25 := bI_n c25; replace c25 := of_decide_eq_true c25
        exact absurd ⟨c17, c25⟩ hbad
  · replace c6 := bI_0 c6; replace c6 := of_decide_eq_false c6
    exact absurd ⟨nI_pos' (by omega), nI_lt hs (by omega)⟩ c6

set_option maxHeartbeats 4000000 in
set_option maxRecDepth 100000 in
theorem tX5_move_s (l : Launch) (dC : Nat → ClassId) (dI : Nat → Nat → Nat) (cJ cI cZ : ClassId) (om cd ns apx apy act nb asd amv asl apl asw nw aor nc aon atw aup alw nm : Nat) (mx my up lo rx ry : Int64) (fmv : Nat → Int64) (b : Nat) (dx dy : Int64) (hs : b < nb) (hn : nb ≤ 16) (hok : (-10000 ≤ dx ∧ dx ≤ 10000) ∧ (-10000 ≤ dy ∧ dy ≤ 10000)) (hsame : fmv (2 * b) = dx ∧ fmv ((2 * b) + 1) = dy) : MMi l yX5_move wsX5_move { frames := 1, cells := 0, slots := 0, locals := 21 } [.ref om, .int (nI b), .long dx, .long dy] (dC, dI) [(om, .inr (5, [.int (nI cd), .int (nI ns), .ref apx, .ref apy, .ref act, .int (nI nb), .ref asd, .ref amv, .ref asl, .ref apl, .ref asw, .int (nI nw), .ref aor, .int (nI nc), .ref aon, .ref atw, .long mx, .long my, .ref aup, .ref alw, .int (nI nm), .long up, .long lo, .long rx, .long ry])), (amv, .inl (cJ, 32, .inr (.inl fmv)))] [(om, .inr (5, [.int (nI 0), .int (nI ns), .ref apx, .ref apy, .ref act, .int (nI nb), .ref asd, .ref amv, .ref asl, .ref apl, .ref asw, .int (nI nw), .ref aor, .int (nI nc), .ref aon, .ref atw, .long mx, .long my, .ref aup, .ref alw, .int (nI nm), .long up, .long lo, .long rx, .long ry])), (amv, .inl (cJ, 32, .inr (.inl fmv)))] [(cJ, .long), (cI, .int), (cZ, .boolean)] (bI false) := by
  intro sz
  refine kOf (cc := cX5_move) (maxL := 6) (ret := (some .boolean)) (by decide) rfl (Nat.le_of_ble_eq_true rfl) ?_
  intro p e s m below meth c hx hb hr hml hts hown hlocks hB ls hl
  obtain ⟨hsz, hP, hK, hD0⟩ := hB
  subst hsz
  have hD := hD0.self (sz := s.heap.size)
  generalize hAe : va_A [(om, .inr (5, [.int (nI cd), .int (nI ns), .ref apx, .ref apy, .ref act, .int (nI nb), .ref asd, .ref amv, .ref asl, .ref apl, .ref asw, .int (nI nw), .ref aor, .int (nI nc), .ref aon, .ref atw, .long mx, .long my, .ref aup, .ref alw, .int (nI nm), .long up, .long lo, .long rx, .long ry])), (amv, .inl (cJ, 32, .inr (.inl fmv)))] s.heap.size = A at hD ⊢
  have hA : ∀ q : Nat, s.heap.size ≤ q → A q := fun q h => by rw [← hAe]; exact Or.inr h
  have hS : va_S A s.heap s.heap [] := va_S.rf
  have hl : lv_has ls 6 [(0, .ref om), (1, .int (nI b)), (2, .long dx), (4, .long dy)] := hl
  have hi5 : ∀ w ∈ u_ws RX5 TX5 25, w ∈ wsX5_move := by decide +kernel
  have f23 := hts (.fieldLink RX5 23 "SweptBoxesModel" "moves" "[J") (by decide +kernel)
  have f54 := hts (.fieldLink RX5 54 "SweptBoxesModel" "code" "I") (by decide +kernel)
  refine lv_aload_n hx hb dX5_move_0 rfl (lv_at hl 0 rfl) ?_
  refine lv_aload_n hx hb dX5_move_1 rfl (lv_at hl 0 rfl) ?_
  refine lv_iload_n hx hb dX5_move_2 rfl (lv_at hl 1 rfl) ?_
  refine kpVi (q0 := 0) (ci := 5) (As := [.int (nI b)]) (rest := [.ref om]) (WC := [(om, .inr (5, [.int (nI cd), .int (nI ns), .ref apx, .ref apy, .ref act, .int (nI nb), .ref asd, .ref amv, .ref asl, .ref apl, .ref asw, .int (nI nw), .ref aor, .int (nI nc), .ref aon, .ref atw, .long mx, .long my, .ref aup, .ref alw, .int (nI nm), .long up, .long lo, .long rx, .long ry]))]) (tyC := [(cJ, .long), (cI, .int), (cZ, .boolean)]) ⟨hx, hb, hml, hown, hts⟩ (tX5_isBox l dC dI cJ cI cZ om cd ns apx apy act nb asd amv asl apl asw nw aor nc aon atw aup alw nm mx my up lo rx ry (nI b)) (cwV 1 hts gX5_move_X5_isBox rfl rfl rfl (by decide +kernel) ⟨Nat.le_of_ble_eq_true rfl, Nat.le_of_ble_eq_true rfl⟩) (kPick (isC := [0]) hP rfl) (hK.sub [0, 1, 2] rfl) rfl rfl rfl rfl hl.1 (Nat.le_of_ble_eq_true rfl) dX5_move_3 ⟨Nat.le_of_ble_eq_true rfl, Nat.le_of_ble_eq_true rfl⟩ ?_
  refine lv_if_ne (tgt := 13) hx hb dX5_move_6 (by decide) (fun c6 => ?_) (fun c6 => ?_)
  · replace c6 := bI_n c6; replace c6 := of_decide_eq_true c6
    refine lv_lload_n hx hb dX5_move_13 rfl (lv_at hl 2 rfl) ?_
    refine kpSi (As := [.long dx]) (rest := [.ref om]) (WC := []) (tyC := []) ⟨hx, hb, hml, hown, hts⟩ (tX5_isIn l dC dI dx) (cwS 1 hts gX5_move_X5_isIn rfl rfl rfl (by decide +kernel) ⟨Nat.le_of_ble_eq_true rfl, Nat.le_of_ble_eq_true rfl⟩) (kPick (isC := []) hP rfl) (hK.sub [] rfl) rfl rfl hl.1 (Nat.le_of_ble_eq_true rfl) dX5_move_14 ⟨Nat.le_of_ble_eq_true rfl, Nat.le_of_ble_eq_true rfl⟩ ?_
    refine lv_if_eq (tgt := 32) hx hb dX5_move_17 (by decide) (fun c17 => ?_) (fun c17 => ?_)
    · replace c17 := bI_0 c17; replace c17 := of_decide_eq_false c17
      exact absurd hok.1 c17
    · replace c17 := bI_n c17; replace c17 := of_decide_eq_true c17
      refine lv_lload hx hb dX5_move_20 (lv_at hl 3 rfl) ?_
      refine kpSi (As := [.long dy]) (rest := [.ref om]) (WC := []) (tyC := []) ⟨hx, hb, hml, hown, hts⟩ (tX5_isIn l dC dI dy) (cwS 1 hts gX5_move_X5_isIn rfl rfl rfl (by decide +kernel) ⟨Nat.le_of_ble_eq_true rfl, Nat.le_of_ble_eq_true rfl⟩) (kPick (isC := []) hP rfl) (hK.sub [] rfl) rfl rfl hl.1 (Nat.le_of_ble_eq_true rfl) dX5_move_22 ⟨Nat.le_of_ble_eq_true rfl, Nat.le_of_ble_eq_true rfl⟩ ?_
      refine lv_if_eq (tgt := 32) hx hb dX5_move_25 (by decide) (fun c25 => ?_) (fun c25 => ?_)
      · replace c25 := bI_0 c25; replace c25 := of_decide_eq_false c25
        exact absurd hok.2 c25
      · replace c25 := bI_n c25; replace c25 := of_decide_eq_true c25
        refine lv_iconst (v := (nI 0)) hx hb dX5_move_28 (by decide) ?_
        refine lv_goto (tgt := 33) hx hb dX5_move_29 (by decide) ?_
        refine va_put (D := (dC, dI)) (ci := 5) (v := .int (nI 0)) (ty := .int) (C := RX5) (T := TX5) (N := 25) hx hb hts hi5 tyX5 tyX5_ok nmX5 hown hK hP hD hS 0 rfl rfl 0 (by decide) f54 (fun _ h9 => h9) rfl (by decide +kernel) rfl rfl (Nat.le_of_ble_eq_true rfl) dX5_move_33 (fun H locs hP hD hS => ?_)
        have hP : va_P (dC, dI) vwCl [(om, .inr (5, [.int (nI 0), .int (nI ns), .ref apx, .ref apy, .ref act, .int (nI nb), .ref asd, .ref amv, .ref asl, .ref apl, .ref asw, .int (nI nw), .ref aor, .int (nI nc), .ref aon, .ref atw, .long mx, .long my, .ref aup, .ref alw, .int (nI nm), .long up, .long lo, .long rx, .long ry])), (amv, .inl (cJ, 32, .inr (.inl fmv)))] H := hP
        have hD : va_D A [(om, .inr (5, [.int (nI 0), .int (nI ns), .ref apx, .ref apy, .ref act, .int (nI nb), .ref asd, .ref amv, .ref asl, .ref apl, .ref asw, .int (nI nw), .ref aor, .int (nI nc), .ref aon, .ref atw, .long mx, .long my, .ref aup, .ref alw, .int (nI nm), .long up, .long lo, .long rx, .long ry])), (amv, .inl (cJ, 32, .inr (.inl fmv)))] := hD
        refine lv_aload_n hx hb dX5_move_36 rfl (lv_at hl 0 rfl) ?_
        refine va_get (D := (dC, dI)) (ci := 5) (v := .int (nI 0)) (C := RX5) (T := TX5) (N := 25) hx hb hts hi5 hown hK hP 0 rfl rfl 0 (by decide) f54 (fun _ h9 => h9) rfl dX5_move_37 ?_
        refine lv_if_gt (tgt := 72) hx hb dX5_move_40 (by decide) (fun c40 => ?_) (fun c40 => ?_)
        · skip
          exact absurd c40 (by decide)
        · rw [← nI_0, nI_ltI (by omega) (by omega), Nat.not_lt] at c40
          refine lv_aload_n hx hb dX5_move_43 rfl (lv_at hl 0 rfl) ?_
          refine va_get (D := (dC, dI)) (ci := 5) (v := .ref amv) (C := RX5) (T := TX5) (N := 25) hx hb hts hi5 hown hK hP 0 rfl rfl 7 (by decide) f23 (fun _ h9 => h9) rfl dX5_move_44 ?_
          refine lv_iconst (v := (nI 2)) hx hb dX5_move_47 (by decide) ?_
          refine lv_iload_n hx hb dX5_move_48 rfl (lv_at hl 1 rfl) ?_
          refine lv_imul hx hb dX5_move_49 ?_
          rw [show (nI 2) * (nI b) = (nI (2 * b)) from pk_mul 2 b]
          refine va_lald hx hb hK hP 1 0 rfl rfl (vp_in_nI (show (2 * b) < 32 by omega) (by omega)) dX5_move_50 ?_
          rw [show (nI (2 * b)).toNatClampNeg = (2 * b) from nI_clamp (show (2 * b) < 2 ^ 31 by omega)]
          refine lv_lload_n hx hb dX5_move_51 rfl (lv_at hl 2 rfl) ?_
          refine W.lcmp hx hb dX5_move_52 ?_
          refine lv_if_ne (tgt := 74) hx hb dX5_move_53 (by decide) (fun c53 => ?_) (fun c53 => ?_)
          · simp only [ne_eq, lg_cmp_eq] at c53
            exact absurd hsame.1 c53
          · simp only [ne_eq, Decidable.not_not, lg_cmp_eq] at c53
            refine lv_aload_n hx hb dX5_move_56 rfl (lv_at hl 0 rfl) ?_
            refine va_get (D := (dC, dI)) (ci := 5) (v := .ref amv) (C := RX5) (T := TX5) (N := 25) hx hb hts hi5 hown hK hP 0 rfl rfl 7 (by decide) f23 (fun _ h9 => h9) rfl dX5_move_57 ?_
            refine lv_iconst (v := (nI 2)) hx hb dX5_move_60 (by decide) ?_
            refine lv_iload_n hx hb dX5_move_61 rfl (lv_at hl 1 rfl) ?_
            refine lv_imul hx hb dX5_move_62 ?_
            rw [show (nI 2) * (nI b) = (nI (2 * b)) from pk_mul 2 b]
            refine lv_iconst (v := (nI 1)) hx hb dX5_move_63 (by decide) ?_
            refine lv_iadd hx hb dX5_move_64 ?_
            rw [show (nI (2 * b)) + (nI 1) = (nI (((2 * b)) + 1)) from nI_add ((2 * b)) 1]
            refine va_lald hx hb hK hP 1 0 rfl rfl (vp_in_nI (show (((2 * b)) + 1) < 32 by omega) (by omega)) dX5_move_65 ?_
            rw [show (nI (((2 * b)) + 1)).toNatClampNeg = (((2 * b)) + 1) from nI_clamp (show (((2 * b)) + 1) < 2 ^ 31 by omega)]
            refine lv_lload hx hb dX5_move_66 (lv_at hl 3 rfl) ?_
            refine W.lcmp hx hb dX5_move_68 ?_
            refine lv_if_ne (tgt := 74) hx hb dX5_move_69 (by decide) (fun c69 => ?_) (fun c69 => ?_)
            · simp only [ne_eq, lg_cmp_eq] at c69
              exact absurd hsame.2 c69
            · simp only [ne_eq, Decidable.not_not, lg_cmp_eq] at c69
              refine lv_iconst (v := (nI 0)) hx hb dX5_move_72 (by decide) ?_
              exact kEz hx hb hr hlocks hP hK hD hS dX5_move_73 rfl
  · replace c6 := bI_0 c6; replace c6 := of_decide_eq_false c6
    exact absurd ⟨nI_pos' (by omega), nI_lt hs (by omega)⟩ c6

set_option maxHeartbeats 4000000 in
set_option maxRecDepth 100000 in
theorem tX5_move_o (l : Launch) (dC : Nat → ClassId) (dI : Nat → Nat → Nat) (cJ cI cZ : ClassId) (om cd ns apx apy act nb asd amv asl apl asw nw aor nc aon atw aup alw nm : Nat) (mx my up lo rx ry : Int64) (fmv : Nat → Int64) (b : Nat) (dx dy : Int64) (hs : b < nb) (hn : nb ≤ 16) (hok : (-10000 ≤ dx ∧ dx ≤ 10000) ∧ (-10000 ≤ dy ∧ dy ≤ 10000)) (hsame : ¬ (fmv (2 * b) = dx ∧ fmv ((2 * b) + 1) = dy)) : MMi l yX5_move wsX5_move { frames := 1, cells := 0, slots := 0, locals := 21 } [.ref om, .int (nI b), .long dx, .long dy] (dC, dI) [(om, .inr (5, [.int (nI cd), .int (nI ns), .ref apx, .ref apy, .ref act, .int (nI nb), .ref asd, .ref amv, .ref asl, .ref apl, .ref asw, .int (nI nw), .ref aor, .int (nI nc), .ref aon, .ref atw, .long mx, .long my, .ref aup, .ref alw, .int (nI nm), .long up, .long lo, .long rx, .long ry])), (amv, .inl (cJ, 32, .inr (.inl fmv)))] [(om, .inr (5, [.int (nI 0), .int (nI ns), .ref apx, .ref apy, .ref act, .int (nI nb), .ref asd, .ref amv, .ref asl, .ref apl, .ref asw, .int (nI nw), .ref aor, .int (nI nc), .ref aon, .ref atw, .long mx, .long my, .ref aup, .ref alw, .int (nI nm), .long up, .long lo, .long rx, .long ry])), (amv, .inl (cJ, 32, .inr (.inl (mMv fmv (2 * b) dx dy))))] [(cJ, .long), (cI, .int), (cZ, .boolean)] (bI true) := by
  intro sz
  refine kOf (cc := cX5_move) (maxL := 6) (ret := (some .boolean)) (by decide) rfl (Nat.le_of_ble_eq_true rfl) ?_
  intro p e s m below meth c hx hb hr hml hts hown hlocks hB ls hl
  obtain ⟨hsz, hP, hK, hD0⟩ := hB
  subst hsz
  have hD := hD0.self (sz := s.heap.size)
  generalize hAe : va_A [(om, .inr (5, [.int (nI cd), .int (nI ns), .ref apx, .ref apy, .ref act, .int (nI nb), .ref asd, .ref amv, .ref asl, .ref apl, .ref asw, .int (nI nw), .ref aor, .int (nI nc), .ref aon, .ref atw, .long mx, .long my, .ref aup, .ref alw, .int (nI nm), .long up, .long lo, .long rx, .long ry])), (amv, .inl (cJ, 32, .inr (.inl fmv)))] s.heap.size = A at hD ⊢
  have hA : ∀ q : Nat, s.heap.size ≤ q → A q := fun q h => by rw [← hAe]; exact Or.inr h
  have hS : va_S A s.heap s.heap [] := va_S.rf
  have hl : lv_has ls 6 [(0, .ref om), (1, .int (nI b)), (2, .long dx), (4, .long dy)] := hl
  have hi5 : ∀ w ∈ u_ws RX5 TX5 25, w ∈ wsX5_move := by decide +kernel
  have f23 := hts (.fieldLink RX5 23 "SweptBoxesModel" "moves" "[J") (by decide +kernel)
  have f54 := hts (.fieldLink RX5 54 "SweptBoxesModel" "code" "I") (by decide +kernel)
  refine lv_aload_n hx hb dX5_move_0 rfl (lv_at hl 0 rfl) ?_
  refine lv_aload_n hx hb dX5_move_1 rfl (lv_at hl 0 rfl) ?_
  refine lv_iload_n hx hb dX5_move_2 rfl (lv_at hl 1 rfl) ?_
  refine kpVi (q0 := 0) (ci := 5) (As := [.int (nI b)]) (rest := [.ref om]) (WC := [(om, .inr (5, [.int (nI cd), .int (nI ns), .ref apx, .ref apy, .ref act, .int (nI nb), .ref asd, .ref amv, .ref asl, .ref apl, .ref asw, .int (nI nw), .ref aor, .int (nI nc), .ref aon, .ref atw, .long mx, .long my, .ref aup, .ref alw, .int (nI nm), .long up, .long lo, .long rx, .long ry]))]) (tyC := [(cJ, .long), (cI, .int), (cZ, .boolean)]) ⟨hx, hb, hml, hown, hts⟩ (tX5_isBox l dC dI cJ cI cZ om cd ns apx apy act nb asd amv asl apl asw nw aor nc aon atw aup alw nm mx my up lo rx ry (nI b)) (cwV 1 hts gX5_move_X5_isBox rfl rfl rfl (by decide +kernel) ⟨Nat.le_of_ble_eq_true rfl, Nat.le_of_ble_eq_true rfl⟩) (kPick (isC := [0]) hP rfl) (hK.sub [0, 1, 2] rfl) rfl rfl rfl rfl hl.1 (Nat.le_of_ble_eq_true rfl) dX5_move_3 ⟨Nat.le_of_ble_eq_true rfl, Nat.le_of_ble_eq_true rfl⟩ ?_
  refine lv_if_ne (tgt := 13) hx hb dX5_move_6 (by decide) (fun c6 => ?_) (fun c6 => ?_)
  · replace c6 := bI_n c6; replace c6 := of_decide_eq_true c6
    refine lv_lload_n hx hb dX5_move_13 rfl (lv_at hl 2 rfl) ?_
    refine kpSi (As := [.long dx]) (rest := [.ref om]) (WC := []) (tyC := []) ⟨hx, hb, hml, hown, hts⟩ (tX5_isIn l dC dI dx) (cwS 1 hts gX5_move_X5_isIn rfl rfl rfl (by decide +kernel) ⟨Nat.le_of_ble_eq_true rfl, Nat.le_of_ble_eq_true rfl⟩) (kPick (isC := []) hP rfl) (hK.sub [] rfl) rfl rfl hl.1 (Nat.le_of_ble_eq_true rfl) dX5_move_14 ⟨Nat.le_of_ble_eq_true rfl, Nat.le_of_ble_eq_true rfl⟩ ?_
    refine lv_if_eq (tgt := 32) hx hb dX5_move_17 (by decide) (fun c17 => ?_) (fun c17 => ?_)
    · replace c17 := bI_0 c17; replace c17 := of_decide_eq_false c17
      exact absurd hok.1 c17
    · replace c17 := bI_n c17; replace c17 := of_decide_eq_true c17
      refine lv_lload hx hb dX5_move_20 (lv_at hl 3 rfl) ?_
      refine kpSi (As := [.long dy]) (rest := [.ref om]) (WC := []) (tyC := []) ⟨hx, hb, hml, hown, hts⟩ (tX5_isIn l dC dI dy) (cwS 1 hts gX5_move_X5_isIn rfl rfl rfl (by decide +kernel) ⟨Nat.le_of_ble_eq_true rfl, Nat.le_of_ble_eq_true rfl⟩) (kPick (isC := []) hP rfl) (hK.sub [] rfl) rfl rfl hl.1 (Nat.le_of_ble_eq_true rfl) dX5_move_22 ⟨Nat.le_of_ble_eq_true rfl, Nat.le_of_ble_eq_true rfl⟩ ?_
      refine lv_if_eq (tgt := 32) hx hb dX5_move_25 (by decide) (fun c25 => ?_) (fun c25 => ?_)
      · replace c25 := bI_0 c25; replace c25 := of_decide_eq_false c25
        exact absurd hok.2 c25
      · replace c25 := bI_n c25; replace c25 := of_decide_eq_true c25
        refine lv_iconst (v := (nI 0)) hx hb dX5_move_28 (by decide) ?_
        refine lv_goto (tgt := 33) hx hb dX5_move_29 (by decide) ?_
        refine va_put (D := (dC, dI)) (ci := 5) (v := .int (nI 0)) (ty := .int) (C := RX5) (T := TX5) (N := 25) hx hb hts hi5 tyX5 tyX5_ok nmX5 hown hK hP hD hS 0 rfl rfl 0 (by decide) f54 (fun _ h9 => h9) rfl (by decide +kernel) rfl rfl (Nat.le_of_ble_eq_true rfl) dX5_move_33 (fun H locs hP hD hS => ?_)
        have hP : va_P (dC, dI) vwCl [(om, .inr (5, [.int (nI 0), .int (nI ns), .ref apx, .ref apy, .ref act, .int (nI nb), .ref asd, .ref amv, .ref asl, .ref apl, .ref asw, .int (nI nw), .ref aor, .int (nI nc), .ref aon, .ref atw, .long mx, .long my, .ref aup, .ref alw, .int (nI nm), .long up, .long lo, .long rx, .long ry])), (amv, .inl (cJ, 32, .inr (.inl fmv)))] H := hP
        have hD : va_D A [(om, .inr (5, [.int (nI 0), .int (nI ns), .ref apx, .ref apy, .ref act, .int (nI nb), .ref asd, .ref amv, .ref asl, .ref apl, .ref asw, .int (nI nw), .ref aor, .int (nI nc), .ref aon, .ref atw, .long mx, .long my, .ref aup, .ref alw, .int (nI nm), .long up, .long lo, .long rx, .long ry])), (amv, .inl (cJ, 32, .inr (.inl fmv)))] := hD
        refine lv_aload_n hx hb dX5_move_36 rfl (lv_at hl 0 rfl) ?_
        refine va_get (D := (dC, dI)) (ci := 5) (v := .int (nI 0)) (C := RX5) (T := TX5) (N := 25) hx hb hts hi5 hown hK hP 0 rfl rfl 0 (by decide) f54 (fun _ h9 => h9) rfl dX5_move_37 ?_
        refine lv_if_gt (tgt := 72) hx hb dX5_move_40 (by decide) (fun c40 => ?_) (fun c40 => ?_)
        · skip
          exact absurd c40 (by decide)
        · rw [← nI_0, nI_ltI (by omega) (by omega), Nat.not_lt] at c40
          refine lv_aload_n hx hb dX5_move_43 rfl (lv_at hl 0 rfl) ?_
          refine va_get (D := (dC, dI)) (ci := 5) (v := .ref amv) (C := RX5) (T := TX5) (N := 25) hx hb hts hi5 hown hK hP 0 rfl rfl 7 (by decide) f23 (fun _ h9 => h9) rfl dX5_move_44 ?_
          refine lv_iconst (v := (nI 2)) hx hb dX5_move_47 (by decide) ?_
          refine lv_iload_n hx hb dX5_move_48 rfl (lv_at hl 1 rfl) ?_
          refine lv_imul hx hb dX5_move_49 ?_
          rw [show (nI 2) * (nI b) = (nI (2 * b)) from pk_mul 2 b]
          refine va_lald hx hb hK hP 1 0 rfl rfl (vp_in_nI (show (2 * b) < 32 by omega) (by omega)) dX5_move_50 ?_
          rw [show (nI (2 * b)).toNatClampNeg = (2 * b) from nI_clamp (show (2 * b) < 2 ^ 31 by omega)]
          refine lv_lload_n hx hb dX5_move_51 rfl (lv_at hl 2 rfl) ?_
          refine W.lcmp hx hb dX5_move_52 ?_
          refine lv_if_ne (tgt := 74) hx hb dX5_move_53 (by decide) (fun c53 => ?_) (fun c53 => ?_)
          · simp only [ne_eq, lg_cmp_eq] at c53
            refine lv_aload_n hx hb dX5_move_74 rfl (lv_at hl 0 rfl) ?_
            refine va_get (D := (dC, dI)) (ci := 5) (v := .ref amv) (C := RX5) (T := TX5) (N := 25) hx hb hts hi5 hown hK hP 0 rfl rfl 7 (by decide) f23 (fun _ h9 => h9) rfl dX5_move_75 ?_
            refine lv_iconst (v := (nI 2)) hx hb dX5_move_78 (by decide) ?_
            refine lv_iload_n hx hb dX5_move_79 rfl (lv_at hl 1 rfl) ?_
            refine lv_imul hx hb dX5_move_80 ?_
            rw [show (nI 2) * (nI b) = (nI (2 * b)) from pk_mul 2 b]
            refine lv_lload_n hx hb dX5_move_81 rfl (lv_at hl 2 rfl) ?_
            refine va_last hx hb hK hP hD hS 1 0 rfl rfl (vp_in_nI (show (2 * b) < 32 by omega) (by omega)) dX5_move_82 (fun H locs hP hD hS => ?_)
            rw [show (nI (2 * b)).toNatClampNeg = (2 * b) from nI_clamp (show (2 * b) < 2 ^ 31 by omega)] at hP hD
            have hP : va_P (dC, dI) vwCl [(om, .inr (5, [.int (nI 0), .int (nI ns), .ref apx, .ref apy, .ref act, .int (nI nb), .ref asd, .ref amv, .ref asl, .ref apl, .ref asw, .int (nI nw), .ref aor, .int (nI nc), .ref aon, .ref atw, .long mx, .long my, .ref aup, .ref alw, .int (nI nm), .long up, .long lo, .long rx, .long ry])), (amv, .inl (cJ, 32, .inr (.inl (vp_updL fmv ((2 * b)) dx))))] H := hP
            have hD : va_D A [(om, .inr (5, [.int (nI 0), .int (nI ns), .ref apx, .ref apy, .ref act, .int (nI nb), .ref asd, .ref amv, .ref asl, .ref apl, .ref asw, .int (nI nw), .ref aor, .int (nI nc), .ref aon, .ref atw, .long mx, .long my, .ref aup, .ref alw, .int (nI nm), .long up, .long lo, .long rx, .long ry])), (amv, .inl (cJ, 32, .inr (.inl (vp_updL fmv ((2 * b)) dx))))] := hD
            refine lv_aload_n hx hb dX5_move_83 rfl (lv_at hl 0 rfl) ?_
            refine va_get (D := (dC, dI)) (ci := 5) (v := .ref amv) (C := RX5) (T := TX5) (N := 25) hx hb hts hi5 hown hK hP 0 rfl rfl 7 (by decide) f23 (fun _ h9 => h9) rfl dX5_move_84 ?_
            refine lv_iconst (v := (nI 2)) hx hb dX5_move_87 (by decide) ?_
            refine lv_iload_n hx hb dX5_move_88 rfl (lv_at hl 1 rfl) ?_
            refine lv_imul hx hb dX5_move_89 ?_
            rw [show (nI 2) * (nI b) = (nI (2 * b)) from pk_mul 2 b]
            refine lv_iconst (v := (nI 1)) hx hb dX5_move_90 (by decide) ?_
            refine lv_iadd hx hb dX5_move_91 ?_
            rw [show (nI (2 * b)) + (nI 1) = (nI (((2 * b)) + 1)) from nI_add ((2 * b)) 1]
            refine lv_lload hx hb dX5_move_92 (lv_at hl 3 rfl) ?_
            refine va_last hx hb hK hP hD hS 1 0 rfl rfl (vp_in_nI (show (((2 * b)) + 1) < 32 by omega) (by omega)) dX5_move_94 (fun H locs hP hD hS => ?_)
            rw [show (nI (((2 * b)) + 1)).toNatClampNeg = (((2 * b)) + 1) from nI_clamp (show (((2 * b)) + 1) < 2 ^ 31 by omega)] at hP hD
            have hP : va_P (dC, dI) vwCl [(om, .inr (5, [.int (nI 0), .int (nI ns), .ref apx, .ref apy, .ref act, .int (nI nb), .ref asd, .ref amv, .ref asl, .ref apl, .ref asw, .int (nI nw), .ref aor, .int (nI nc), .ref aon, .ref atw, .long mx, .long my, .ref aup, .ref alw, .int (nI nm), .long up, .long lo, .long rx, .long ry])), (amv, .inl (cJ, 32, .inr (.inl (vp_updL (vp_updL fmv ((2 * b)) dx) ((((2 * b)) + 1)) dy))))] H := hP
            have hD : va_D A [(om, .inr (5, [.int (nI 0), .int (nI ns), .ref apx, .ref apy, .ref act, .int (nI nb), .ref asd, .ref amv, .ref asl, .ref apl, .ref asw, .int (nI nw), .ref aor, .int (nI nc), .ref aon, .ref atw, .long mx, .long my, .ref aup, .ref alw, .int (nI nm), .long up, .long lo, .long rx, .long ry])), (amv, .inl (cJ, 32, .inr (.inl (vp_updL (vp_updL fmv ((2 * b)) dx) ((((2 * b)) + 1)) dy))))] := hD
            refine lv_iconst (v := (nI 1)) hx hb dX5_move_95 (by decide) ?_
            exact kEz hx hb hr hlocks hP hK hD hS dX5_move_96 rfl
          · simp only [ne_eq, Decidable.not_not, lg_cmp_eq] at c53
            refine lv_aload_n hx hb dX5_move_56 rfl (lv_at hl 0 rfl) ?_
            refine va_get (D := (dC, dI)) (ci := 5) (v := .ref amv) (C := RX5) (T := TX5) (N := 25) hx hb hts hi5 hown hK hP 0 rfl rfl 7 (by decide) f23 (fun _ h9 => h9) rfl dX5_move_57 ?_
            refine lv_iconst (v := (nI 2)) hx hb dX5_move_60 (by decide) ?_
            refine lv_iload_n hx hb dX5_move_61 rfl (lv_at hl 1 rfl) ?_
            refine lv_imul hx hb dX5_move_62 ?_
            rw [show (nI 2) * (nI b) = (nI (2 * b)) from pk_mul 2 b]
            refine lv_iconst (v := (nI 1)) hx hb dX5_move_63 (by decide) ?_
            refine lv_iadd hx hb dX5_move_64 ?_
            rw [show (nI (2 * b)) + (nI 1) = (nI (((2 * b)) + 1)) from nI_add ((2 * b)) 1]
            refine va_lald hx hb hK hP 1 0 rfl rfl (vp_in_nI (show (((2 * b)) + 1) < 32 by omega) (by omega)) dX5_move_65 ?_
            rw [show (nI (((2 * b)) + 1)).toNatClampNeg = (((2 * b)) + 1) from nI_clamp (show (((2 * b)) + 1) < 2 ^ 31 by omega)]
            refine lv_lload hx hb dX5_move_66 (lv_at hl 3 rfl) ?_
            refine W.lcmp hx hb dX5_move_68 ?_
            refine lv_if_ne (tgt := 74) hx hb dX5_move_69 (by decide) (fun c69 => ?_) (fun c69 => ?_)
            · simp only [ne_eq, lg_cmp_eq] at c69
              refine lv_aload_n hx hb dX5_move_74 rfl (lv_at hl 0 rfl) ?_
              refine va_get (D := (dC, dI)) (ci := 5) (v := .ref amv) (C := RX5) (T := TX5) (N := 25) hx hb hts hi5 hown hK hP 0 rfl rfl 7 (by decide) f23 (fun _ h9 => h9) rfl dX5_move_75 ?_
              refine lv_iconst (v := (nI 2)) hx hb dX5_move_78 (by decide) ?_
              refine lv_iload_n hx hb dX5_move_79 rfl (lv_at hl 1 rfl) ?_
              refine lv_imul hx hb dX5_move_80 ?_
              rw [show (nI 2) * (nI b) = (nI (2 * b)) from pk_mul 2 b]
              refine lv_lload_n hx hb dX5_move_81 rfl (lv_at hl 2 rfl) ?_
              refine va_last hx hb hK hP hD hS 1 0 rfl rfl (vp_in_nI (show (2 * b) < 32 by omega) (by omega)) dX5_move_82 (fun H locs hP hD hS => ?_)
              rw [show (nI (2 * b)).toNatClampNeg = (2 * b) from nI_clamp (show (2 * b) < 2 ^ 31 by omega)] at hP hD
              have hP : va_P (dC, dI) vwCl [(om, .inr (5, [.int (nI 0), .int (nI ns), .ref apx, .ref apy, .ref act, .int (nI nb), .ref asd, .ref amv, .ref asl, .ref apl, .ref asw, .int (nI nw), .ref aor, .int (nI nc), .ref aon, .ref atw, .long mx, .long my, .ref aup, .ref alw, .int (nI nm), .long up, .long lo, .long rx, .long ry])), (amv, .inl (cJ, 32, .inr (.inl (vp_updL fmv ((2 * b)) dx))))] H := hP
              have hD : va_D A [(om, .inr (5, [.int (nI 0), .int (nI ns), .ref apx, .ref apy, .ref act, .int (nI nb), .ref asd, .ref amv, .ref asl, .ref apl, .ref asw, .int (nI nw), .ref aor, .int (nI nc), .ref aon, .ref atw, .long mx, .long my, .ref aup, .ref alw, .int (nI nm), .long up, .long lo, .long rx, .long ry])), (amv, .inl (cJ, 32, .inr (.inl (vp_updL fmv ((2 * b)) dx))))] := hD
              refine lv_aload_n hx hb dX5_move_83 rfl (lv_at hl 0 rfl) ?_
              refine va_get (D := (dC, dI)) (ci := 5) (v := .ref amv) (C := RX5) (T := TX5) (N := 25) hx hb hts hi5 hown hK hP 0 rfl rfl 7 (by decide) f23 (fun _ h9 => h9) rfl dX5_move_84 ?_
              refine lv_iconst (v := (nI 2)) hx hb dX5_move_87 (by decide) ?_
              refine lv_iload_n hx hb dX5_move_88 rfl (lv_at hl 1 rfl) ?_
              refine lv_imul hx hb dX5_move_89 ?_
              rw [show (nI 2) * (nI b) = (nI (2 * b)) from pk_mul 2 b]
              refine lv_iconst (v := (nI 1)) hx hb dX5_move_90 (by decide) ?_
              refine lv_iadd hx hb dX5_move_91 ?_
              rw [show (nI (2 * b)) + (nI 1) = (nI (((2 * b)) + 1)) from nI_add ((2 * b)) 1]
              refine lv_lload hx hb dX5_move_92 (lv_at hl 3 rfl) ?_
              refine va_last hx hb hK hP hD hS 1 0 rfl rfl (vp_in_nI (show (((2 * b)) + 1) < 32 by omega) (by omega)) dX5_move_94 (fun H locs hP hD hS => ?_)
              rw [show (nI (((2 * b)) + 1)).toNatClampNeg = (((2 * b)) + 1) from nI_clamp (show (((2 * b)) + 1) < 2 ^ 31 by omega)] at hP hD
              have hP : va_P (dC, dI) vwCl [(om, .inr (5, [.int (nI 0), .int (nI ns), .ref apx, .ref apy, .ref act, .int (nI nb), .ref asd, .ref amv, .ref asl, .ref apl, .ref asw, .int (nI nw), .ref aor, .int (nI nc), .ref aon, .ref atw, .long mx, .long my, .ref aup, .ref alw, .int (nI nm), .long up, .long lo, .long rx, .long ry])), (amv, .inl (cJ, 32, .inr (.inl (vp_updL (vp_updL fmv ((2 * b)) dx) ((((2 * b)) + 1)) dy))))] H := hP
              have hD : va_D A [(om, .inr (5, [.int (nI 0), .int (nI ns), .ref apx, .ref apy, .ref act, .int (nI nb), .ref asd, .ref amv, .ref asl, .ref apl, .ref asw, .int (nI nw), .ref aor, .int (nI nc), .ref aon, .ref atw, .long mx, .long my, .ref aup, .ref alw, .int (nI nm), .long up, .long lo, .long rx, .long ry])), (amv, .inl (cJ, 32, .inr (.inl (vp_updL (vp_updL fmv ((2 * b)) dx) ((((2 * b)) + 1)) dy))))] := hD
              refine lv_iconst (v := (nI 1)) hx hb dX5_move_95 (by decide) ?_
              exact kEz hx hb hr hlocks hP hK hD hS dX5_move_96 rfl
            · simp only [ne_eq, Decidable.not_not, lg_cmp_eq] at c69
              exact absurd ⟨c53, c69⟩ hsame
  · replace c6 := bI_0 c6; replace c6 := of_decide_eq_false c6
    exact absurd ⟨nI_pos' (by omega), nI_lt hs (by omega)⟩ c6

set_option maxHeartbeats 4000000 in
set_option maxRecDepth 100000 in
theorem tX5_at_e (l : Launch) (dC : Nat → ClassId) (dI : Nat → Nat → Nat) (cJ cI cZ : ClassId) (om cd ns apx apy act nb asd amv asl apl asw nw aor nc aon atw aup alw nm : Nat) (mx my up lo rx ry : Int64) (fpl : Nat → Int64) (si : Int32) (hs : ¬ (0 ≤ si ∧ si ≤ 3)) : MMl l yX5_at wsX5_at { frames := 0, cells := 0, slots := 0, locals := 0 } [.ref om, .int si] (dC, dI) [(om, .inr (5, [.int (nI cd), .int (nI ns), .ref apx, .ref apy, .ref act, .int (nI nb), .ref asd, .ref amv, .ref asl, .ref apl, .ref asw, .int (nI nw), .ref aor, .int (nI nc), .ref aon, .ref atw, .long mx, .long my, .ref aup, .ref alw, .int (nI nm), .long up, .long lo, .long rx, .long ry])), (apl, .inl (cJ, 4, .inr (.inl fpl)))] [(om, .inr (5, [.int (nI 1), .int (nI ns), .ref apx, .ref apy, .ref act, .int (nI nb), .ref asd, .ref amv, .ref asl, .ref apl, .ref asw, .int (nI nw), .ref aor, .int (nI nc), .ref aon, .ref atw, .long mx, .long my, .ref aup, .ref alw, .int (nI nm), .long up, .long lo, .long rx, .long ry])), (apl, .inl (cJ, 4, .inr (.inl fpl)))] [(cJ, .long), (cI, .int), (cZ, .boolean)] (0) := by
  intro sz
  refine kOf (cc := cX5_at) (maxL := 2) (ret := (some .long)) (by decide) rfl (Nat.le_of_ble_eq_true rfl) ?_
  intro p e s m below meth c hx hb hr hml hts hown hlocks hB ls hl
  obtain ⟨hsz, hP, hK, hD0⟩ := hB
  subst hsz
  have hD := hD0.self (sz := s.heap.size)
  generalize hAe : va_A [(om, .inr (5, [.int (nI cd), .int (nI ns), .ref apx, .ref apy, .ref act, .int (nI nb), .ref asd, .ref amv, .ref asl, .ref apl, .ref asw, .int (nI nw), .ref aor, .int (nI nc), .ref aon, .ref atw, .long mx, .long my, .ref aup, .ref alw, .int (nI nm), .long up, .long lo, .long rx, .long ry])), (apl, .inl (cJ, 4, .inr (.inl fpl)))] s.heap.size = A at hD ⊢
  have hA : ∀ q : Nat, s.heap.size ≤ q → A q := fun q h => by rw [← hAe]; exact Or.inr h
  have hS : va_S A s.heap s.heap [] := va_S.rf
  have hl : lv_has ls 2 [(0, .ref om), (1, .int si)] := hl
  have hi5 : ∀ w ∈ u_ws RX5 TX5 25, w ∈ wsX5_at := by decide +kernel
  have f54 := hts (.fieldLink RX5 54 "SweptBoxesModel" "code" "I") (by decide +kernel)
  refine lv_aload_n hx hb dX5_at_0 rfl (lv_at hl 0 rfl) ?_
  refine lv_iload_n hx hb dX5_at_1 rfl (lv_at hl 1 rfl) ?_
  refine lv_if_lt (tgt := 10) hx hb dX5_at_2 (by decide) (fun c2 => ?_) (fun c2 => ?_)
  · skip
    refine lv_iconst (v := (nI 1)) hx hb dX5_at_10 (by decide) ?_
    refine lv_goto (tgt := 15) hx hb dX5_at_11 (by decide) ?_
    refine va_put (D := (dC, dI)) (ci := 5) (v := .int (nI 1)) (ty := .int) (C := RX5) (T := TX5) (N := 25) hx hb hts hi5 tyX5 tyX5_ok nmX5 hown hK hP hD hS 0 rfl rfl 0 (by decide) f54 (fun _ h9 => h9) rfl (by decide +kernel) rfl rfl (Nat.le_of_ble_eq_true rfl) dX5_at_15 (fun H locs hP hD hS => ?_)
    have hP : va_P (dC, dI) vwCl [(om, .inr (5, [.int (nI 1), .int (nI ns), .ref apx, .ref apy, .ref act, .int (nI nb), .ref asd, .ref amv, .ref asl, .ref apl, .ref asw, .int (nI nw), .ref aor, .int (nI nc), .ref aon, .ref atw, .long mx, .long my, .ref aup, .ref alw, .int (nI nm), .long up, .long lo, .long rx, .long ry])), (apl, .inl (cJ, 4, .inr (.inl fpl)))] H := hP
    have hD : va_D A [(om, .inr (5, [.int (nI 1), .int (nI ns), .ref apx, .ref apy, .ref act, .int (nI nb), .ref asd, .ref amv, .ref asl, .ref apl, .ref asw, .int (nI nw), .ref aor, .int (nI nc), .ref aon, .ref atw, .long mx, .long my, .ref aup, .ref alw, .int (nI nm), .long up, .long lo, .long rx, .long ry])), (apl, .inl (cJ, 4, .inr (.inl fpl)))] := hD
    refine lv_aload_n hx hb dX5_at_18 rfl (lv_at hl 0 rfl) ?_
    refine va_get (D := (dC, dI)) (ci := 5) (v := .int (nI 1)) (C := RX5) (T := TX5) (N := 25) hx hb hts hi5 hown hK hP 0 rfl rfl 0 (by decide) f54 (fun _ h9 => h9) rfl dX5_at_19 ?_
    refine lv_if_le (tgt := 29) hx hb dX5_at_22 (by decide) (fun c22 => ?_) (fun c22 => ?_)
    · skip
      exact absurd c22 (by decide)
    · rw [← nI_0, nI_leI (by omega) (by omega), Nat.not_le] at c22
      refine lv_lconst (v := 0) hx hb dX5_at_25 (by decide) ?_
      refine lv_goto (tgt := 35) hx hb dX5_at_26 (by decide) ?_
      exact kEl hx hb hr hlocks hP hK hD hS dX5_at_35 rfl
  · skip
    refine lv_iload_n hx hb dX5_at_5 rfl (lv_at hl 1 rfl) ?_
    refine lv_iconst (v := (nI 3)) hx hb dX5_at_6 (by decide) ?_
    refine lv_icmp_le (tgt := 14) hx hb dX5_at_7 (by decide) (fun c7 => ?_) (fun c7 => ?_)
    · skip
      exact absurd ⟨Int32.not_lt.mp c2, c7⟩ hs
    · skip
      refine lv_iconst (v := (nI 1)) hx hb dX5_at_10 (by decide) ?_
      refine lv_goto (tgt := 15) hx hb dX5_at_11 (by decide) ?_
      refine va_put (D := (dC, dI)) (ci := 5) (v := .int (nI 1)) (ty := .int) (C := RX5) (T := TX5) (N := 25) hx hb hts hi5 tyX5 tyX5_ok nmX5 hown hK hP hD hS 0 rfl rfl 0 (by decide) f54 (fun _ h9 => h9) rfl (by decide +kernel) rfl rfl (Nat.le_of_ble_eq_true rfl) dX5_at_15 (fun H locs hP hD hS => ?_)
      have hP : va_P (dC, dI) vwCl [(om, .inr (5, [.int (nI 1), .int (nI ns), .ref apx, .ref apy, .ref act, .int (nI nb), .ref asd, .ref amv, .ref asl, .ref apl, .ref asw, .int (nI nw), .ref aor, .int (nI nc), .ref aon, .ref atw, .long mx, .long my, .ref aup, .ref alw, .int (nI nm), .long up, .long lo, .long rx, .long ry])), (apl, .inl (cJ, 4, .inr (.inl fpl)))] H := hP
      have hD : va_D A [(om, .inr (5, [.int (nI 1), .int (nI ns), .ref apx, .ref apy, .ref act, .int (nI nb), .ref asd, .ref amv, .ref asl, .ref apl, .ref asw, .int (nI nw), .ref aor, .int (nI nc), .ref aon, .ref atw, .long mx, .long my, .ref aup, .ref alw, .int (nI nm), .long up, .long lo, .long rx, .long ry])), (apl, .inl (cJ, 4, .inr (.inl fpl)))] := hD
      refine lv_aload_n hx hb dX5_at_18 rfl (lv_at hl 0 rfl) ?_
      refine va_get (D := (dC, dI)) (ci := 5) (v := .int (nI 1)) (C := RX5) (T := TX5) (N := 25) hx hb hts hi5 hown hK hP 0 rfl rfl 0 (by decide) f54 (fun _ h9 => h9) rfl dX5_at_19 ?_
      refine lv_if_le (tgt := 29) hx hb dX5_at_22 (by decide) (fun c22 => ?_) (fun c22 => ?_)
      · skip
        exact absurd c22 (by decide)
      · rw [← nI_0, nI_leI (by omega) (by omega), Nat.not_le] at c22
        refine lv_lconst (v := 0) hx hb dX5_at_25 (by decide) ?_
        refine lv_goto (tgt := 35) hx hb dX5_at_26 (by decide) ?_
        exact kEl hx hb hr hlocks hP hK hD hS dX5_at_35 rfl

set_option maxHeartbeats 4000000 in
set_option maxRecDepth 100000 in
theorem tX5_at_o (l : Launch) (dC : Nat → ClassId) (dI : Nat → Nat → Nat) (cJ cI cZ : ClassId) (om cd ns apx apy act nb asd amv asl apl asw nw aor nc aon atw aup alw nm : Nat) (mx my up lo rx ry : Int64) (fpl : Nat → Int64) (b : Nat) (hs : b ≤ 3) : MMl l yX5_at wsX5_at { frames := 0, cells := 0, slots := 0, locals := 0 } [.ref om, .int (nI b)] (dC, dI) [(om, .inr (5, [.int (nI cd), .int (nI ns), .ref apx, .ref apy, .ref act, .int (nI nb), .ref asd, .ref amv, .ref asl, .ref apl, .ref asw, .int (nI nw), .ref aor, .int (nI nc), .ref aon, .ref atw, .long mx, .long my, .ref aup, .ref alw, .int (nI nm), .long up, .long lo, .long rx, .long ry])), (apl, .inl (cJ, 4, .inr (.inl fpl)))] [(om, .inr (5, [.int (nI 0), .int (nI ns), .ref apx, .ref apy, .ref act, .int (nI nb), .ref asd, .ref amv, .ref asl, .ref apl, .ref asw, .int (nI nw), .ref aor, .int (nI nc), .ref aon, .ref atw, .long mx, .long my, .ref aup, .ref alw, .int (nI nm), .long up, .long lo, .long rx, .long ry])), (apl, .inl (cJ, 4, .inr (.inl fpl)))] [(cJ, .long), (cI, .int), (cZ, .boolean)] (fpl b) := by
  intro sz
  refine kOf (cc := cX5_at) (maxL := 2) (ret := (some .long)) (by decide) rfl (Nat.le_of_ble_eq_true rfl) ?_
  intro p e s m below meth c hx hb hr hml hts hown hlocks hB ls hl
  obtain ⟨hsz, hP, hK, hD0⟩ := hB
  subst hsz
  have hD := hD0.self (sz := s.heap.size)
  generalize hAe : va_A [(om, .inr (5, [.int (nI cd), .int (nI ns), .ref apx, .ref apy, .ref act, .int (nI nb), .ref asd, .ref amv, .ref asl, .ref apl, .ref asw, .int (nI nw), .ref aor, .int (nI nc), .ref aon, .ref atw, .long mx, .long my, .ref aup, .ref alw, .int (nI nm), .long up, .long lo, .long rx, .long ry])), (apl, .inl (cJ, 4, .inr (.inl fpl)))] s.heap.size = A at hD ⊢
  have hA : ∀ q : Nat, s.heap.size ≤ q → A q := fun q h => by rw [← hAe]; exact Or.inr h
  have hS : va_S A s.heap s.heap [] := va_S.rf
  have hl : lv_has ls 2 [(0, .ref om), (1, .int (nI b))] := hl
  have hi5 : ∀ w ∈ u_ws RX5 TX5 25, w ∈ wsX5_at := by decide +kernel
  have f30 := hts (.fieldLink RX5 30 "SweptBoxesModel" "player" "[J") (by decide +kernel)
  have f54 := hts (.fieldLink RX5 54 "SweptBoxesModel" "code" "I") (by decide +kernel)
  refine lv_aload_n hx hb dX5_at_0 rfl (lv_at hl 0 rfl) ?_
  refine lv_iload_n hx hb dX5_at_1 rfl (lv_at hl 1 rfl) ?_
  refine lv_if_lt (tgt := 10) hx hb dX5_at_2 (by decide) (fun c2 => ?_) (fun c2 => ?_)
  · rw [← nI_0, nI_ltI (by omega) (by omega)] at c2
    exfalso; omega
  · rw [← nI_0, nI_ltI (by omega) (by omega), Nat.not_lt] at c2
    refine lv_iload_n hx hb dX5_at_5 rfl (lv_at hl 1 rfl) ?_
    refine lv_iconst (v := (nI 3)) hx hb dX5_at_6 (by decide) ?_
    refine lv_icmp_le (tgt := 14) hx hb dX5_at_7 (by decide) (fun c7 => ?_) (fun c7 => ?_)
    · rw [nI_leI (by omega) (by omega)] at c7
      refine lv_iconst (v := (nI 0)) hx hb dX5_at_14 (by decide) ?_
      refine va_put (D := (dC, dI)) (ci := 5) (v := .int (nI 0)) (ty := .int) (C := RX5) (T := TX5) (N := 25) hx hb hts hi5 tyX5 tyX5_ok nmX5 hown hK hP hD hS 0 rfl rfl 0 (by decide) f54 (fun _ h9 => h9) rfl (by decide +kernel) rfl rfl (Nat.le_of_ble_eq_true rfl) dX5_at_15 (fun H locs hP hD hS => ?_)
      have hP : va_P (dC, dI) vwCl [(om, .inr (5, [.int (nI 0), .int (nI ns), .ref apx, .ref apy, .ref act, .int (nI nb), .ref asd, .ref amv, .ref asl, .ref apl, .ref asw, .int (nI nw), .ref aor, .int (nI nc), .ref aon, .ref atw, .long mx, .long my, .ref aup, .ref alw, .int (nI nm), .long up, .long lo, .long rx, .long ry])), (apl, .inl (cJ, 4, .inr (.inl fpl)))] H := hP
      have hD : va_D A [(om, .inr (5, [.int (nI 0), .int (nI ns), .ref apx, .ref apy, .ref act, .int (nI nb), .ref asd, .ref amv, .ref asl, .ref apl, .ref asw, .int (nI nw), .ref aor, .int (nI nc), .ref aon, .ref atw, .long mx, .long my, .ref aup, .ref alw, .int (nI nm), .long up, .long lo, .long rx, .long ry])), (apl, .inl (cJ, 4, .inr (.inl fpl)))] := hD
      refine lv_aload_n hx hb dX5_at_18 rfl (lv_at hl 0 rfl) ?_
      refine va_get (D := (dC, dI)) (ci := 5) (v := .int (nI 0)) (C := RX5) (T := TX5) (N := 25) hx hb hts hi5 hown hK hP 0 rfl rfl 0 (by decide) f54 (fun _ h9 => h9) rfl dX5_at_19 ?_
      refine lv_if_le (tgt := 29) hx hb dX5_at_22 (by decide) (fun c22 => ?_) (fun c22 => ?_)
      · rw [← nI_0, nI_leI (by omega) (by omega)] at c22
        refine lv_aload_n hx hb dX5_at_29 rfl (lv_at hl 0 rfl) ?_
        refine va_get (D := (dC, dI)) (ci := 5) (v := .ref apl) (C := RX5) (T := TX5) (N := 25) hx hb hts hi5 hown hK hP 0 rfl rfl 9 (by decide) f30 (fun _ h9 => h9) rfl dX5_at_30 ?_
        refine lv_iload_n hx hb dX5_at_33 rfl (lv_at hl 1 rfl) ?_
        refine va_lald hx hb hK hP 1 0 rfl rfl (vp_in_nI (show b < 4 by omega) (by omega)) dX5_at_34 ?_
        rw [show (nI b).toNatClampNeg = b from nI_clamp (show b < 2 ^ 31 by omega)]
        exact kEl hx hb hr hlocks hP hK hD hS dX5_at_35 rfl
      · skip
        exact absurd c22 (by decide)
    · rw [nI_leI (by omega) (by omega), Nat.not_le] at c7
      exfalso; omega

set_option maxHeartbeats 4000000 in
set_option maxRecDepth 100000 in
theorem tX5_sweep_e (l : Launch) (dC : Nat → ClassId) (dI : Nat → Nat → Nat) (cJ cI cZ : ClassId) (om cd ns apx apy act nb asd amv asl apl asw nw aor nc aon atw aup alw nm : Nat) (mx my up lo rx ry : Int64) (fsw : Nat → Int64) (si sj : Int32) (hs : ¬ ((0 ≤ si ∧ si < nI nw) ∧ 0 ≤ sj ∧ sj ≤ 5)) : MMl l yX5_sweep wsX5_sweep { frames := 0, cells := 0, slots := 0, locals := 0 } [.ref om, .int si, .int sj] (dC, dI) [(om, .inr (5, [.int (nI cd), .int (nI ns), .ref apx, .ref apy, .ref act, .int (nI nb), .ref asd, .ref amv, .ref asl, .ref apl, .ref asw, .int (nI nw), .ref aor, .int (nI nc), .ref aon, .ref atw, .long mx, .long my, .ref aup, .ref alw, .int (nI nm), .long up, .long lo, .long rx, .long ry])), (asw, .inl (cJ, 48, .inr (.inl fsw)))] [(om, .inr (5, [.int (nI 1), .int (nI ns), .ref apx, .ref apy, .ref act, .int (nI nb), .ref asd, .ref amv, .ref asl, .ref apl, .ref asw, .int (nI nw), .ref aor, .int (nI nc), .ref aon, .ref atw, .long mx, .long my, .ref aup, .ref alw, .int (nI nm), .long up, .long lo, .long rx, .long ry])), (asw, .inl (cJ, 48, .inr (.inl fsw)))] [(cJ, .long), (cI, .int), (cZ, .boolean)] (0) := by
  intro sz
  refine kOf (cc := cX5_sweep) (maxL := 3) (ret := (some .long)) (by decide) rfl (Nat.le_of_ble_eq_true rfl) ?_
  intro p e s m below meth c hx hb hr hml hts hown hlocks hB ls hl
  obtain ⟨hsz, hP, hK, hD0⟩ := hB
  subst hsz
  have hD := hD0.self (sz := s.heap.size)
  generalize hAe : va_A [(om, .inr (5, [.int (nI cd), .int (nI ns), .ref apx, .ref apy, .ref act, .int (nI nb), .ref asd, .ref amv, .ref asl, .ref apl, .ref asw, .int (nI nw), .ref aor, .int (nI nc), .ref aon, .ref atw, .long mx, .long my, .ref aup, .ref alw, .int (nI nm), .long up, .long lo, .long rx, .long ry])), (asw, .inl (cJ, 48, .inr (.inl fsw)))] s.heap.size = A at hD ⊢
  have hA : ∀ q : Nat, s.heap.size ≤ q → A q := fun q h => by rw [← hAe]; exact Or.inr h
  have hS : va_S A s.heap s.heap [] := va_S.rf
  have hl : lv_has ls 3 [(0, .ref om), (1, .int si), (2, .int sj)] := hl
  have hi5 : ∀ w ∈ u_ws RX5 TX5 25, w ∈ wsX5_sweep := by decide +kernel
  have f54 := hts (.fieldLink RX5 54 "SweptBoxesModel" "code" "I") (by decide +kernel)
  have f64 := hts (.fieldLink RX5 64 "SweptBoxesModel" "sweepCount" "I") (by decide +kernel)
  refine lv_aload_n hx hb dX5_sweep_0 rfl (lv_at hl 0 rfl) ?_
  refine lv_iload_n hx hb dX5_sweep_1 rfl (lv_at hl 1 rfl) ?_
  refine lv_if_lt (tgt := 22) hx hb dX5_sweep_2 (by decide) (fun c2 => ?_) (fun c2 => ?_)
  · skip
    refine lv_iconst (v := (nI 1)) hx hb dX5_sweep_22 (by decide) ?_
    refine lv_goto (tgt := 27) hx hb dX5_sweep_23 (by decide) ?_
    refine va_put (D := (dC, dI)) (ci := 5) (v := .int (nI 1)) (ty := .int) (C := RX5) (T := TX5) (N := 25) hx hb hts hi5 tyX5 tyX5_ok nmX5 hown hK hP hD hS 0 rfl rfl 0 (by decide) f54 (fun _ h9 => h9) rfl (by decide +kernel) rfl rfl (Nat.le_of_ble_eq_true rfl) dX5_sweep_27 (fun H locs hP hD hS => ?_)
    have hP : va_P (dC, dI) vwCl [(om, .inr (5, [.int (nI 1), .int (nI ns), .ref apx, .ref apy, .ref act, .int (nI nb), .ref asd, .ref amv, .ref asl, .ref apl, .ref asw, .int (nI nw), .ref aor, .int (nI nc), .ref aon, .ref atw, .long mx, .long my, .ref aup, .ref alw, .int (nI nm), .long up, .long lo, .long rx, .long ry])), (asw, .inl (cJ, 48, .inr (.inl fsw)))] H := hP
    have hD : va_D A [(om, .inr (5, [.int (nI 1), .int (nI ns), .ref apx, .ref apy, .ref act, .int (nI nb), .ref asd, .ref amv, .ref asl, .ref apl, .ref asw, .int (nI nw), .ref aor, .int (nI nc), .ref aon, .ref atw, .long mx, .long my, .ref aup, .ref alw, .int (nI nm), .long up, .long lo, .long rx, .long ry])), (asw, .inl (cJ, 48, .inr (.inl fsw)))] := hD
    refine lv_aload_n hx hb dX5_sweep_30 rfl (lv_at hl 0 rfl) ?_
    refine va_get (D := (dC, dI)) (ci := 5) (v := .int (nI 1)) (C := RX5) (T := TX5) (N := 25) hx hb hts hi5 hown hK hP 0 rfl rfl 0 (by decide) f54 (fun _ h9 => h9) rfl dX5_sweep_31 ?_
    refine lv_if_le (tgt := 41) hx hb dX5_sweep_34 (by decide) (fun c34 => ?_) (fun c34 => ?_)
    · skip
      exact absurd c34 (by decide)
    · rw [← nI_0, nI_leI (by omega) (by omega), Nat.not_le] at c34
      refine lv_lconst (v := 0) hx hb dX5_sweep_37 (by decide) ?_
      refine lv_goto (tgt := 52) hx hb dX5_sweep_38 (by decide) ?_
      exact kEl hx hb hr hlocks hP hK hD hS dX5_sweep_52 rfl
  · skip
    refine lv_iload_n hx hb dX5_sweep_5 rfl (lv_at hl 1 rfl) ?_
    refine lv_aload_n hx hb dX5_sweep_6 rfl (lv_at hl 0 rfl) ?_
    refine va_get (D := (dC, dI)) (ci := 5) (v := .int (nI nw)) (C := RX5) (T := TX5) (N := 25) hx hb hts hi5 hown hK hP 0 rfl rfl 11 (by decide) f64 (fun _ h9 => h9) rfl dX5_sweep_7 ?_
    refine lv_icmp_ge (tgt := 22) hx hb dX5_sweep_10 (by decide) (fun c10 => ?_) (fun c10 => ?_)
    · skip
      refine lv_iconst (v := (nI 1)) hx hb dX5_sweep_22 (by decide) ?_
      refine lv_goto (tgt := 27) hx hb dX5_sweep_23 (by decide) ?_
      refine va_put (D := (dC, dI)) (ci := 5) (v := .int (nI 1)) (ty := .int) (C := RX5) (T := TX5) (N := 25) hx hb hts hi5 tyX5 tyX5_ok nmX5 hown hK hP hD hS 0 rfl rfl 0 (by decide) f54 (fun _ h9 => h9) rfl (by decide +kernel) rfl rfl (Nat.le_of_ble_eq_true rfl) dX5_sweep_27 (fun H locs hP hD hS => ?_)
      have hP : va_P (dC, dI) vwCl [(om, .inr (5, [.int (nI 1), .int (nI ns), .ref apx, .ref apy, .ref act, .int (nI nb), .ref asd, .ref amv, .ref asl, .ref apl, .ref asw, .int (nI nw), .ref aor, .int (nI nc), .ref aon, .ref atw, .long mx, .long my, .ref aup, .ref alw, .int (nI nm), .long up, .long lo, .long rx, .long ry])), (asw, .inl (cJ, 48, .inr (.inl fsw)))] H := hP
      have hD : va_D A [(om, .inr (5, [.int (nI 1), .int (nI ns), .ref apx, .ref apy, .ref act, .int (nI nb), .ref asd, .ref amv, .ref asl, .ref apl, .ref asw, .int (nI nw), .ref aor, .int (nI nc), .ref aon, .ref atw, .long mx, .long my, .ref aup, .ref alw, .int (nI nm), .long up, .long lo, .long rx, .long ry])), (asw, .inl (cJ, 48, .inr (.inl fsw)))] := hD
      refine lv_aload_n hx hb dX5_sweep_30 rfl (lv_at hl 0 rfl) ?_
      refine va_get (D := (dC, dI)) (ci := 5) (v := .int (nI 1)) (C := RX5) (T := TX5) (N := 25) hx hb hts hi5 hown hK hP 0 rfl rfl 0 (by decide) f54 (fun _ h9 => h9) rfl dX5_sweep_31 ?_
      refine lv_if_le (tgt := 41) hx hb dX5_sweep_34 (by decide) (fun c34 => ?_) (fun c34 => ?_)
      · skip
        exact absurd c34 (by decide)
      · rw [← nI_0, nI_leI (by omega) (by omega), Nat.not_le] at c34
        refine lv_lconst (v := 0) hx hb dX5_sweep_37 (by decide) ?_
        refine lv_goto (tgt := 52) hx hb dX5_sweep_38 (by decide) ?_
        exact kEl hx hb hr hlocks hP hK hD hS dX5_sweep_52 rfl
    · skip
      refine lv_iload_n hx hb dX5_sweep_13 rfl (lv_at hl 2 rfl) ?_
      refine lv_if_lt (tgt := 22) hx hb dX5_sweep_14 (by decide) (fun c14 => ?_) (fun c14 => ?_)
      · skip
        refine lv_iconst (v := (nI 1)) hx hb dX5_sweep_22 (by decide) ?_
        refine lv_goto (tgt := 27) hx hb dX5_sweep_23 (by decide) ?_
        refine va_put (D := (dC, dI)) (ci := 5) (v := .int (nI 1)) (ty := .int) (C := RX5) (T := TX5) (N := 25) hx hb hts hi5 tyX5 tyX5_ok nmX5 hown hK hP hD hS 0 rfl rfl 0 (by decide) f54 (fun _ h9 => h9) rfl (by decide +kernel) rfl rfl (Nat.le_of_ble_eq_true rfl) dX5_sweep_27 (fun H locs hP hD hS => ?_)
        have hP : va_P (dC, dI) vwCl [(om, .inr (5, [.int (nI 1), .int (nI ns), .ref apx, .ref apy, .ref act, .int (nI nb), .ref asd, .ref amv, .ref asl, .ref apl, .ref asw, .int (nI nw), .ref aor, .int (nI nc), .ref aon, .ref atw, .long mx, .long my, .ref aup, .ref alw, .int (nI nm), .long up, .long lo, .long rx, .long ry])), (asw, .inl (cJ, 48, .inr (.inl fsw)))] H := hP
        have hD : va_D A [(om, .inr (5, [.int (nI 1), .int (nI ns), .ref apx, .ref apy, .ref act, .int (nI nb), .ref asd, .ref amv, .ref asl, .ref apl, .ref asw, .int (nI nw), .ref aor, .int (nI nc), .ref aon, .ref atw, .long mx, .long my, .ref aup, .ref alw, .int (nI nm), .long up, .long lo, .long rx, .long ry])), (asw, .inl (cJ, 48, .inr (.inl fsw)))] := hD
        refine lv_aload_n hx hb dX5_sweep_30 rfl (lv_at hl 0 rfl) ?_
        refine va_get (D := (dC, dI)) (ci := 5) (v := .int (nI 1)) (C := RX5) (T := TX5) (N := 25) hx hb hts hi5 hown hK hP 0 rfl rfl 0 (by decide) f54 (fun _ h9 => h9) rfl dX5_sweep_31 ?_
        refine lv_if_le (tgt := 41) hx hb dX5_sweep_34 (by decide) (fun c34 => ?_) (fun c34 => ?_)
        · skip
          exact absurd c34 (by decide)
        · rw [← nI_0, nI_leI (by omega) (by omega), Nat.not_le] at c34
          refine lv_lconst (v := 0) hx hb dX5_sweep_37 (by decide) ?_
          refine lv_goto (tgt := 52) hx hb dX5_sweep_38 (by decide) ?_
          exact kEl hx hb hr hlocks hP hK hD hS dX5_sweep_52 rfl
      · skip
        refine lv_iload_n hx hb dX5_sweep_17 rfl (lv_at hl 2 rfl) ?_
        refine lv_iconst (v := (nI 5)) hx hb dX5_sweep_18 (by decide) ?_
        refine lv_icmp_le (tgt := 26) hx hb dX5_sweep_19 (by decide) (fun c19 => ?_) (fun c19 => ?_)
        · skip
          exact absurd ⟨⟨Int32.not_lt.mp c2, Int32.not_le.mp c10⟩, Int32.not_lt.mp c14, c19⟩ hs
        · skip
          refine lv_iconst (v := (nI 1)) hx hb dX5_sweep_22 (by decide) ?_
          refine lv_goto (tgt := 27) hx hb dX5_sweep_23 (by decide) ?_
          refine va_put (D := (dC, dI)) (ci := 5) (v := .int (nI 1)) (ty := .int) (C := RX5) (T := TX5) (N := 25) hx hb hts hi5 tyX5 tyX5_ok nmX5 hown hK hP hD hS 0 rfl rfl 0 (by decide) f54 (fun _ h9 => h9) rfl (by decide +kernel) rfl rfl (Nat.le_of_ble_eq_true rfl) dX5_sweep_27 (fun H locs hP hD hS => ?_)
          have hP : va_P (dC, dI) vwCl [(om, .inr (5, [.int (nI 1), .int (nI ns), .ref apx, .ref apy, .ref act, .int (nI nb), .ref asd, .ref amv, .ref asl, .ref apl, .ref asw, .int (nI nw), .ref aor, .int (nI nc), .ref aon, .ref atw, .long mx, .long my, .ref aup, .ref alw, .int (nI nm), .long up, .long lo, .long rx, .long ry])), (asw, .inl (cJ, 48, .inr (.inl fsw)))] H := hP
          have hD : va_D A [(om, .inr (5, [.int (nI 1), .int (nI ns), .ref apx, .ref apy, .ref act, .int (nI nb), .ref asd, .ref amv, .ref asl, .ref apl, .ref asw, .int (nI nw), .ref aor, .int (nI nc), .ref aon, .ref atw, .long mx, .long my, .ref aup, .ref alw, .int (nI nm), .long up, .long lo, .long rx, .long ry])), (asw, .inl (cJ, 48, .inr (.inl fsw)))] := hD
          refine lv_aload_n hx hb dX5_sweep_30 rfl (lv_at hl 0 rfl) ?_
          refine va_get (D := (dC, dI)) (ci := 5) (v := .int (nI 1)) (C := RX5) (T := TX5) (N := 25) hx hb hts hi5 hown hK hP 0 rfl rfl 0 (by decide) f54 (fun _ h9 => h9) rfl dX5_sweep_31 ?_
          refine lv_if_le (tgt := 41) hx hb dX5_sweep_34 (by decide) (fun c34 => ?_) (fun c34 => ?_)
          · skip
            exact absurd c34 (by decide)
          · rw [← nI_0, nI_leI (by omega) (by omega), Nat.not_le] at c34
            refine lv_lconst (v := 0) hx hb dX5_sweep_37 (by decide) ?_
            refine lv_goto (tgt := 52) hx hb dX5_sweep_38 (by decide) ?_
            exact kEl hx hb hr hlocks hP hK hD hS dX5_sweep_52 rfl

set_option maxHeartbeats 4000000 in
set_option maxRecDepth 100000 in
theorem tX5_sweep_o (l : Launch) (dC : Nat → ClassId) (dI : Nat → Nat → Nat) (cJ cI cZ : ClassId) (om cd ns apx apy act nb asd amv asl apl asw nw aor nc aon atw aup alw nm : Nat) (mx my up lo rx ry : Int64) (fsw : Nat → Int64) (b d : Nat) (hs : b < nw) (hn : nw ≤ 8) (hd : d ≤ 5) : MMl l yX5_sweep wsX5_sweep { frames := 0, cells := 0, slots := 0, locals := 0 } [.ref om, .int (nI b), .int (nI d)] (dC, dI) [(om, .inr (5, [.int (nI cd), .int (nI ns), .ref apx, .ref apy, .ref act, .int (nI nb), .ref asd, .ref amv, .ref asl, .ref apl, .ref asw, .int (nI nw), .ref aor, .int (nI nc), .ref aon, .ref atw, .long mx, .long my, .ref aup, .ref alw, .int (nI nm), .long up, .long lo, .long rx, .long ry])), (asw, .inl (cJ, 48, .inr (.inl fsw)))] [(om, .inr (5, [.int (nI 0), .int (nI ns), .ref apx, .ref apy, .ref act, .int (nI nb), .ref asd, .ref amv, .ref asl, .ref apl, .ref asw, .int (nI nw), .ref aor, .int (nI nc), .ref aon, .ref atw, .long mx, .long my, .ref aup, .ref alw, .int (nI nm), .long up, .long lo, .long rx, .long ry])), (asw, .inl (cJ, 48, .inr (.inl fsw)))] [(cJ, .long), (cI, .int), (cZ, .boolean)] (fsw ((6 * b) + d)) := by
  intro sz
  refine kOf (cc := cX5_sweep) (maxL := 3) (ret := (some .long)) (by decide) rfl (Nat.le_of_ble_eq_true rfl) ?_
  intro p e s m below meth c hx hb hr hml hts hown hlocks hB ls hl
  obtain ⟨hsz, hP, hK, hD0⟩ := hB
  subst hsz
  have hD := hD0.self (sz := s.heap.size)
  generalize hAe : va_A [(om, .inr (5, [.int (nI cd), .int (nI ns), .ref apx, .ref apy, .ref act, .int (nI nb), .ref asd, .ref amv, .ref asl, .ref apl, .ref asw, .int (nI nw), .ref aor, .int (nI nc), .ref aon, .ref atw, .long mx, .long my, .ref aup, .ref alw, .int (nI nm), .long up, .long lo, .long rx, .long ry])), (asw, .inl (cJ, 48, .inr (.inl fsw)))] s.heap.size = A at hD ⊢
  have hA : ∀ q : Nat, s.heap.size ≤ q → A q := fun q h => by rw [← hAe]; exact Or.inr h
  have hS : va_S A s.heap s.heap [] := va_S.rf
  have hl : lv_has ls 3 [(0, .ref om), (1, .int (nI b)), (2, .int (nI d))] := hl
  have hi5 : ∀ w ∈ u_ws RX5 TX5 25, w ∈ wsX5_sweep := by decide +kernel
  have f33 := hts (.fieldLink RX5 33 "SweptBoxesModel" "sweeps" "[J") (by decide +kernel)
  have f54 := hts (.fieldLink RX5 54 "SweptBoxesModel" "code" "I") (by decide +kernel)
  have f64 := hts (.fieldLink RX5 64 "SweptBoxesModel" "sweepCount" "I") (by decide +kernel)
  refine lv_aload_n hx hb dX5_sweep_0 rfl (lv_at hl 0 rfl) ?_
  refine lv_iload_n hx hb dX5_sweep_1 rfl (lv_at hl 1 rfl) ?_
  refine lv_if_lt (tgt := 22) hx hb dX5_sweep_2 (by decide) (fun c2 => ?_) (fun c2 => ?_)
  · rw [← nI_0, nI_ltI (by omega) (by omega)] at c2
    exfalso; omega
  · rw [← nI_0, nI_ltI (by omega) (by omega), Nat.not_lt] at c2
    refine lv_iload_n hx hb dX5_sweep_5 rfl (lv_at hl 1 rfl) ?_
    refine lv_aload_n hx hb dX5_sweep_6 rfl (lv_at hl 0 rfl) ?_
    refine va_get (D := (dC, dI)) (ci := 5) (v := .int (nI nw)) (C := RX5) (T := TX5) (N := 25) hx hb hts hi5 hown hK hP 0 rfl rfl 11 (by decide) f64 (fun _ h9 => h9) rfl dX5_sweep_7 ?_
    refine lv_icmp_ge (tgt := 22) hx hb dX5_sweep_10 (by decide) (fun c10 => ?_) (fun c10 => ?_)
    · rw [nI_leI (by omega) (by omega)] at c10
      exfalso; omega
    · rw [nI_leI (by omega) (by omega), Nat.not_le] at c10
      refine lv_iload_n hx hb dX5_sweep_13 rfl (lv_at hl 2 rfl) ?_
      refine lv_if_lt (tgt := 22) hx hb dX5_sweep_14 (by decide) (fun c14 => ?_) (fun c14 => ?_)
      · rw [← nI_0, nI_ltI (by omega) (by omega)] at c14
        exfalso; omega
      · rw [← nI_0, nI_ltI (by omega) (by omega), Nat.not_lt] at c14
        refine lv_iload_n hx hb dX5_sweep_17 rfl (lv_at hl 2 rfl) ?_
        refine lv_iconst (v := (nI 5)) hx hb dX5_sweep_18 (by decide) ?_
        refine lv_icmp_le (tgt := 26) hx hb dX5_sweep_19 (by decide) (fun c19 => ?_) (fun c19 => ?_)
        · rw [nI_leI (by omega) (by omega)] at c19
          refine lv_iconst (v := (nI 0)) hx hb dX5_sweep_26 (by decide) ?_
          refine va_put (D := (dC, dI)) (ci := 5) (v := .int (nI 0)) (ty := .int) (C := RX5) (T := TX5) (N := 25) hx hb hts hi5 tyX5 tyX5_ok nmX5 hown hK hP hD hS 0 rfl rfl 0 (by decide) f54 (fun _ h9 => h9) rfl (by decide +kernel) rfl rfl (Nat.le_of_ble_eq_true rfl) dX5_sweep_27 (fun H locs hP hD hS => ?_)
          have hP : va_P (dC, dI) vwCl [(om, .inr (5, [.int (nI 0), .int (nI ns), .ref apx, .ref apy, .ref act, .int (nI nb), .ref asd, .ref amv, .ref asl, .ref apl, .ref asw, .int (nI nw), .ref aor, .int (nI nc), .ref aon, .ref atw, .long mx, .long my, .ref aup, .ref alw, .int (nI nm), .long up, .long lo, .long rx, .long ry])), (asw, .inl (cJ, 48, .inr (.inl fsw)))] H := hP
          have hD : va_D A [(om, .inr (5, [.int (nI 0), .int (nI ns), .ref apx, .ref apy, .ref act, .int (nI nb), .ref asd, .ref amv, .ref asl, .ref apl, .ref asw, .int (nI nw), .ref aor, .int (nI nc), .ref aon, .ref atw, .long mx, .long my, .ref aup, .ref alw, .int (nI nm), .long up, .long lo, .long rx, .long ry])), (asw, .inl (cJ, 48, .inr (.inl fsw)))] := hD
          refine lv_aload_n hx hb dX5_sweep_30 rfl (lv_at hl 0 rfl) ?_
          refine va_get (D := (dC, dI)) (ci := 5) (v := .int (nI 0)) (C := RX5) (T := TX5) (N := 25) hx hb hts hi5 hown hK hP 0 rfl rfl 0 (by decide) f54 (fun _ h9 => h9) rfl dX5_sweep_31 ?_
          refine lv_if_le (tgt := 41) hx hb dX5_sweep_34 (by decide) (fun c34 => ?_) (fun c34 => ?_)
          · rw [← nI_0, nI_leI (by omega) (by omega)] at c34
            refine lv_aload_n hx hb dX5_sweep_41 rfl (lv_at hl 0 rfl) ?_
            refine va_get (D := (dC, dI)) (ci := 5) (v := .ref asw) (C := RX5) (T := TX5) (N := 25) hx hb hts hi5 hown hK hP 0 rfl rfl 10 (by decide) f33 (fun _ h9 => h9) rfl dX5_sweep_42 ?_
            refine lv_bipush (v := (nI 6)) hx hb dX5_sweep_45 (by decide) ?_
            refine lv_iload_n hx hb dX5_sweep_47 rfl (lv_at hl 1 rfl) ?_
            refine lv_imul hx hb dX5_sweep_48 ?_
            rw [show (nI 6) * (nI b) = (nI (6 * b)) from pk_mul 6 b]
            refine lv_iload_n hx hb dX5_sweep_49 rfl (lv_at hl 2 rfl) ?_
            refine lv_iadd hx hb dX5_sweep_50 ?_
            rw [show (nI (6 * b)) + (nI d) = (nI (((6 * b)) + d)) from nI_add ((6 * b)) d]
            refine va_lald hx hb hK hP 1 0 rfl rfl (vp_in_nI (show (((6 * b)) + d) < 48 by omega) (by omega)) dX5_sweep_51 ?_
            rw [show (nI (((6 * b)) + d)).toNatClampNeg = (((6 * b)) + d) from nI_clamp (show (((6 * b)) + d) < 2 ^ 31 by omega)]
            exact kEl hx hb hr hlocks hP hK hD hS dX5_sweep_52 rfl
          · skip
            exact absurd c34 (by decide)
        · rw [nI_leI (by omega) (by omega), Nat.not_le] at c19
          exfalso; omega
