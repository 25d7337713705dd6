set_option maxHeartbeats 4000000 in
set_option maxRecDepth 100000 in
theorem tX5_thrown (l : Launch) (dC : Nat → ClassId) (dI : Nat → Nat → Nat) (cJ cI cZ : ClassId) (om cd ns apx apy act nb asd amv asl apl asw nw aor nc aon atw aup alw nm : Nat) (mx my up lo rx ry : Int64)   : PMi l yX5_thrown wsX5_thrown { frames := 0, cells := 0, slots := 0, locals := 0 } [.ref om] (dC, dI) [(om, .inr (5, [.int (nI cd), .int (nI ns), .ref apx, .ref apy, .ref act, .int (nI nb), .ref asd, .ref amv, .ref asl, .ref apl, .ref asw, .int (nI nw), .ref aor, .int (nI nc), .ref aon, .ref atw, .long mx, .long my, .ref aup, .ref alw, .int (nI nm), .long up, .long lo, .long rx, .long ry]))] [(cJ, .long), (cI, .int), (cZ, .boolean)] (nI cd) := by
  refine kOf (cc := cX5_thrown) (maxL := 1) (ret := (some .int)) (by decide) rfl (Nat.le_of_ble_eq_true rfl) ?_
  intro p e s m below meth c hx hb hr hml hts hown hlocks hB ls hl
  obtain ⟨hP, hK⟩ := hB
  have hl : lv_has ls 1 [(0, .ref om)] := hl
  have hi5 : ∀ w ∈ u_ws RX5 TX5 25, w ∈ wsX5_thrown := by decide +kernel
  have f54 := hts (.fieldLink RX5 54 "SweptBoxesModel" "code" "I") (by decide +kernel)
  refine lv_aload_n hx hb dX5_thrown_0 rfl (lv_at hl 0 rfl) ?_
  refine va_get (D := (dC, dI)) (ci := 5) (v := .int (nI cd)) (C := RX5) (T := TX5) (N := 25) hx hb hts hi5 hown hK hP 0 rfl rfl 0 (by decide) f54 (fun _ h9 => h9) rfl dX5_thrown_1 ?_
  exact kRi hx hb hr hlocks dX5_thrown_4 rfl

theorem reset_all (f : Nat → Bool) : True := trivial
/-- the first k of an array of booleans put to false -/
def zeroTo (f : Nat → Bool) (k : Nat) : Nat → Bool := fun j => if j < k then false else f j
theorem zeroTo_0 (f : Nat → Bool) : zeroTo f 0 = f := by funext j; simp [zeroTo]
theorem zeroTo_s (f : Nat → Bool) (k : Nat) : va_up (zeroTo f k) k false = zeroTo f (k + 1) := by
  funext j; unfold va_up zeroTo; split
  · next h => rw [if_pos (by omega)]
  · next h => by_cases hj : j < k
              · rw [if_pos hj, if_pos (by omega)]
              · rw [if_neg hj, if_neg (by omega)]
/-- the player at first -/
def plNew (f : Nat → Int64) : Nat → Int64 := vp_updL (vp_updL (vp_updL (vp_updL f 0 (-100)) 1 (-100)) 2 8) 3 8
set_option maxHeartbeats 4000000 in
set_option maxRecDepth 100000 in
theorem tX5_reset (l : Launch) (dC : Nat → ClassId) (dI : Nat → Nat → Nat) (cJ cI cZ : ClassId) (om cd ns apx apy act nb asd amv asl apl asw nw aor nc aon atw aup alw nm : Nat) (mx my up lo rx ry : Int64) (fsl : Nat → Bool) (fpl : Nat → Int64)   : MMv l yX5_reset wsX5_reset { frames := 0, cells := 0, slots := 0, locals := 0 } [.ref om] (dC, dI) [(om, .inr (5, [.int (nI cd), .int (nI ns), .ref apx, .ref apy, .ref act, .int (nI nb), .ref asd, .ref amv, .ref asl, .ref apl, .ref asw, .int (nI nw), .ref aor, .int (nI nc), .ref aon, .ref atw, .long mx, .long my, .ref aup, .ref alw, .int (nI nm), .long up, .long lo, .long rx, .long ry])), (asl, .inl (cZ, 576, .inl (bF fsl))), (apl, .inl (cJ, 4, .inr (.inl fpl)))] [(om, .inr (5, [.int (nI cd), .int (nI 0), .ref apx, .ref apy, .ref act, .int (nI 0), .ref asd, .ref amv, .ref asl, .ref apl, .ref asw, .int (nI 0), .ref aor, .int (nI nc), .ref aon, .ref atw, .long mx, .long my, .ref aup, .ref alw, .int (nI nm), .long up, .long lo, .long rx, .long ry])), (asl, .inl (cZ, 576, .inl (bF (zeroTo fsl 576)))), (apl, .inl (cJ, 4, .inr (.inl (plNew fpl))))] [(cJ, .long), (cI, .int), (cZ, .boolean)] := by
  intro sz
  refine kOf (cc := cX5_reset) (maxL := 2) (ret := none) (by decide) rfl (Nat.le_of_ble_eq_true rfl) ?_
  intro p e s m below meth c hx hb hr hml hts hown hlocks hB ls hl
  obtain ⟨hsz, hP, hK, hD0⟩ := hB
  subst hsz
  have hD := hD0.self (sz := s.heap.size)
  generalize hAe : va_A [(om, .inr (5, [.int (nI cd), .int (nI ns), .ref apx, .ref apy, .ref act, .int (nI nb), .ref asd, .ref amv, .ref asl, .ref apl, .ref asw, .int (nI nw), .ref aor, .int (nI nc), .ref aon, .ref atw, .long mx, .long my, .ref aup, .ref alw, .int (nI nm), .long up, .long lo, .long rx, .long ry])), (asl, .inl (cZ, 576, .inl (bF fsl))), (apl, .inl (cJ, 4, .inr (.inl fpl)))] s.heap.size = A at hD ⊢
  have hA : ∀ q : Nat, s.heap.size ≤ q → A q := fun q h => by rw [← hAe]; exact Or.inr h
  have hS : va_S A s.heap s.heap [] := va_S.rf
  have hl : lv_has ls 2 [(0, .ref om)] := hl
  have hi5 : ∀ w ∈ u_ws RX5 TX5 25, w ∈ wsX5_reset := by decide +kernel
  have f26 := hts (.fieldLink RX5 26 "SweptBoxesModel" "solid" "[Z") (by decide +kernel)
  have f30 := hts (.fieldLink RX5 30 "SweptBoxesModel" "player" "[J") (by decide +kernel)
  have f58 := hts (.fieldLink RX5 58 "SweptBoxesModel" "shapes" "I") (by decide +kernel)
  have f61 := hts (.fieldLink RX5 61 "SweptBoxesModel" "boxes" "I") (by decide +kernel)
  have f64 := hts (.fieldLink RX5 64 "SweptBoxesModel" "sweepCount" "I") (by decide +kernel)
  refine lv_aload_n hx hb dX5_reset_0 rfl (lv_at hl 0 rfl) ?_
  refine lv_iconst (v := (nI 0)) hx hb dX5_reset_1 (by decide) ?_
  refine va_put (D := (dC, dI)) (ci := 5) (v := .int (nI 0)) (ty := .int) (C := RX5) (T := TX5) (N := 25) hx hb hts hi5 tyX5 tyX5_ok nmX5 hown hK hP hD hS 0 rfl rfl 1 (by decide) f58 (fun _ h9 => h9) rfl (by decide +kernel) rfl rfl (Nat.le_of_ble_eq_true rfl) dX5_reset_2 (fun H locs hP hD hS => ?_)
  have hP : va_P (dC, dI) vwCl [(om, .inr (5, [.int (nI cd), .int (nI 0), .ref apx, .ref apy, .ref act, .int (nI nb), .ref asd, .ref amv, .ref asl, .ref apl, .ref asw, .int (nI nw), .ref aor, .int (nI nc), .ref aon, .ref atw, .long mx, .long my, .ref aup, .ref alw, .int (nI nm), .long up, .long lo, .long rx, .long ry])), (asl, .inl (cZ, 576, .inl (bF fsl))), (apl, .inl (cJ, 4, .inr (.inl fpl)))] H := hP
  have hD : va_D A [(om, .inr (5, [.int (nI cd), .int (nI 0), .ref apx, .ref apy, .ref act, .int (nI nb), .ref asd, .ref amv, .ref asl, .ref apl, .ref asw, .int (nI nw), .ref aor, .int (nI nc), .ref aon, .ref atw, .long mx, .long my, .ref aup, .ref alw, .int (nI nm), .long up, .long lo, .long rx, .long ry])), (asl, .inl (cZ, 576, .inl (bF fsl))), (apl, .inl (cJ, 4, .inr (.inl fpl)))] := hD
  refine lv_aload_n hx hb dX5_reset_5 rfl (lv_at hl 0 rfl) ?_
  refine lv_iconst (v := (nI 0)) hx hb dX5_reset_6 (by decide) ?_
  refine va_put (D := (dC, dI)) (ci := 5) (v := .int (nI 0)) (ty := .int) (C := RX5) (T := TX5) (N := 25) hx hb hts hi5 tyX5 tyX5_ok nmX5 hown hK hP hD hS 0 rfl rfl 5 (by decide) f61 (fun _ h9 => h9) rfl (by decide +kernel) rfl rfl (Nat.le_of_ble_eq_true rfl) dX5_reset_7 (fun H locs hP hD hS => ?_)
  have hP : va_P (dC, dI) vwCl [(om, .inr (5, [.int (nI cd), .int (nI 0), .ref apx, .ref apy, .ref act, .int (nI 0), .ref asd, .ref amv, .ref asl, .ref apl, .ref asw, .int (nI nw), .ref aor, .int (nI nc), .ref aon, .ref atw, .long mx, .long my, .ref aup, .ref alw, .int (nI nm), .long up, .long lo, .long rx, .long ry])), (asl, .inl (cZ, 576, .inl (bF fsl))), (apl, .inl (cJ, 4, .inr (.inl fpl)))] H := hP
  have hD : va_D A [(om, .inr (5, [.int (nI cd), .int (nI 0), .ref apx, .ref apy, .ref act, .int (nI 0), .ref asd, .ref amv, .ref asl, .ref apl, .ref asw, .int (nI nw), .ref aor, .int (nI nc), .ref aon, .ref atw, .long mx, .long my, .ref aup, .ref alw, .int (nI nm), .long up, .long lo, .long rx, .long ry])), (asl, .inl (cZ, 576, .inl (bF fsl))), (apl, .inl (cJ, 4, .inr (.inl fpl)))] := hD
  refine lv_aload_n hx hb dX5_reset_10 rfl (lv_at hl 0 rfl) ?_
  refine lv_iconst (v := (nI 0)) hx hb dX5_reset_11 (by decide) ?_
  refine va_put (D := (dC, dI)) (ci := 5) (v := .int (nI 0)) (ty := .int) (C := RX5) (T := TX5) (N := 25) hx hb hts hi5 tyX5 tyX5_ok nmX5 hown hK hP hD hS 0 rfl rfl 11 (by decide) f64 (fun _ h9 => h9) rfl (by decide +kernel) rfl rfl (Nat.le_of_ble_eq_true rfl) dX5_reset_12 (fun H locs hP hD hS => ?_)
  have hP : va_P (dC, dI) vwCl [(om, .inr (5, [.int (nI cd), .int (nI 0), .ref apx, .ref apy, .ref act, .int (nI 0), .ref asd, .ref amv, .ref asl, .ref apl, .ref asw, .int (nI 0), .ref aor, .int (nI nc), .ref aon, .ref atw, .long mx, .long my, .ref aup, .ref alw, .int (nI nm), .long up, .long lo, .long rx, .long ry])), (asl, .inl (cZ, 576, .inl (bF fsl))), (apl, .inl (cJ, 4, .inr (.inl fpl)))] H := hP
  have hD : va_D A [(om, .inr (5, [.int (nI cd), .int (nI 0), .ref apx, .ref apy, .ref act, .int (nI 0), .ref asd, .ref amv, .ref asl, .ref apl, .ref asw, .int (nI 0), .ref aor, .int (nI nc), .ref aon, .ref atw, .long mx, .long my, .ref aup, .ref alw, .int (nI nm), .long up, .long lo, .long rx, .long ry])), (asl, .inl (cZ, 576, .inl (bF fsl))), (apl, .inl (cJ, 4, .inr (.inl fpl)))] := hD
  refine lv_iconst (v := (nI 0)) hx hb dX5_reset_15 (by decide) ?_
  refine lv_istore_n (lv' := [(1, .int (nI 0)), (0, .ref om)]) hx hb dX5_reset_16 rfl hl (by decide) rfl (fun ls hl => ?_)
  refine kLoop (σ := Nat) (fun xz H locs ls => match xz with | k => (va_P (dC, dI) vwCl [(om, .inr (5, [.int (nI cd), .int (nI 0), .ref apx, .ref apy, .ref act, .int (nI 0), .ref asd, .ref amv, .ref asl, .ref apl, .ref asw, .int (nI 0), .ref aor, .int (nI nc), .ref aon, .ref atw, .long mx, .long my, .ref aup, .ref alw, .int (nI nm), .long up, .long lo, .long rx, .long ry])), (asl, .inl (cZ, 576, .inl (bF (zeroTo fsl k)))), (apl, .inl (cJ, 4, .inr (.inl fpl)))] H) ∧ (va_D A [(om, .inr (5, [.int (nI cd), .int (nI 0), .ref apx, .ref apy, .ref act, .int (nI 0), .ref asd, .ref amv, .ref asl, .ref apl, .ref asw, .int (nI 0), .ref aor, .int (nI nc), .ref aon, .ref atw, .long mx, .long my, .ref aup, .ref alw, .int (nI nm), .long up, .long lo, .long rx, .long ry])), (asl, .inl (cZ, 576, .inl (bF (zeroTo fsl k)))), (apl, .inl (cJ, 4, .inr (.inl fpl)))]) ∧ (va_S A s.heap H locs) ∧ (lv_has ls 2 [(0, .ref om), (1, .int (nI k))]) ∧ (k ≤ 576)) (fun xz => match xz with | k => 576 - k) ?_ (0) ?_
  · rintro k H locs ls hI ih17
    obtain ⟨hP, hD, hS, hl, hi17_⟩ := hI
    refine lv_iload_n hx hb dX5_reset_17 rfl (lv_at hl 1 rfl) ?_
    refine lv_sipush (v := (nI 576)) hx hb dX5_reset_18 (by decide) ?_
    refine lv_icmp_ge (tgt := 37) hx hb dX5_reset_21 (by decide) (fun c21 => ?_) (fun c21 => ?_)
    · rw [nI_leI (by omega) (by omega)] at c21
      have hk9 : k = 576 := by omega
      refine lv_aload_n hx hb dX5_reset_37 rfl (lv_at hl 0 rfl) ?_
      refine va_get (D := (dC, dI)) (ci := 5) (v := .ref apl) (C := RX5) (T := TX5) (N := 25) hx hb hts hi5 hown hK hP 0 rfl rfl 9 (by decide) f30 (fun _ h9 => h9) rfl dX5_reset_38 ?_
      refine lv_iconst (v := (nI 0)) hx hb dX5_reset_41 (by decide) ?_
      refine lv_ldc2 hx hb hown (hts (.constantLong RX5 67 (-100)) (by decide +kernel)) dX5_reset_42 ?_
      refine va_last hx hb hK hP hD hS 2 0 rfl rfl (vp_in_nI (show 0 < 4 by omega) (by omega)) dX5_reset_45 (fun H locs hP hD hS => ?_)
      rw [show (nI 0).toNatClampNeg = 0 from nI_clamp (show 0 < 2 ^ 31 by omega)] at hP hD
      have hP : va_P (dC, dI) vwCl [(om, .inr (5, [.int (nI cd), .int (nI 0), .ref apx, .ref apy, .ref act, .int (nI 0), .ref asd, .ref amv, .ref asl, .ref apl, .ref asw, .int (nI 0), .ref aor, .int (nI nc), .ref aon, .ref atw, .long mx, .long my, .ref aup, .ref alw, .int (nI nm), .long up, .long lo, .long rx, .long ry])), (asl, .inl (cZ, 576, .inl (bF (zeroTo fsl k)))), (apl, .inl (cJ, 4, .inr (.inl (vp_updL fpl 0 (-100)))))] H := hP
      have hD : va_D A [(om, .inr (5, [.int (nI cd), .int (nI 0), .ref apx, .ref apy, .ref act, .int (nI 0), .ref asd, .ref amv, .ref asl, .ref apl, .ref asw, .int (nI 0), .ref aor, .int (nI nc), .ref aon, .ref atw, .long mx, .long my, .ref aup, .ref alw, .int (nI nm), .long up, .long lo, .long rx, .long ry])), (asl, .inl (cZ, 576, .inl (bF (zeroTo fsl k)))), (apl, .inl (cJ, 4, .inr (.inl (vp_updL fpl 0 (-100)))))] := hD
      refine lv_aload_n hx hb dX5_reset_46 rfl (lv_at hl 0 rfl) ?_
      refine va_get (D := (dC, dI)) (ci := 5) (v := .ref apl) (C := RX5) (T := TX5) (N := 25) hx hb hts hi5 hown hK hP 0 rfl rfl 9 (by decide) f30 (fun _ h9 => h9) rfl dX5_reset_47 ?_
      refine lv_iconst (v := (nI 1)) hx hb dX5_reset_50 (by decide) ?_
      refine lv_ldc2 hx hb hown (hts (.constantLong RX5 67 (-100)) (by decide +kernel)) dX5_reset_51 ?_
      refine va_last hx hb hK hP hD hS 2 0 rfl rfl (vp_in_nI (show 1 < 4 by omega) (by omega)) dX5_reset_54 (fun H locs hP hD hS => ?_)
      rw [show (nI 1).toNatClampNeg = 1 from nI_clamp (show 1 < 2 ^ 31 by omega)] at hP hD
      have hP : va_P (dC, dI) vwCl [(om, .inr (5, [.int (nI cd), .int (nI 0), .ref apx, .ref apy, .ref act, .int (nI 0), .ref asd, .ref amv, .ref asl, .ref apl, .ref asw, .int (nI 0), .ref aor, .int (nI nc), .ref aon, .ref atw, .long mx, .long my, .ref aup, .ref alw, .int (nI nm), .long up, .long lo, .long rx, .long ry])), (asl, .inl (cZ, 576, .inl (bF (zeroTo fsl k)))), (apl, .inl (cJ, 4, .inr (.inl (vp_updL (vp_updL fpl 0 (-100)) 1 (-100)))))] H := hP
      have hD : va_D A [(om, .inr (5, [.int (nI cd), .int (nI 0), .ref apx, .ref apy, .ref act, .int (nI 0), .ref asd, .ref amv, .ref asl, .ref apl, .ref asw, .int (nI 0), .ref aor, .int (nI nc), .ref aon, .ref atw, .long mx, .long my, .ref aup, .ref alw, .int (nI nm), .long up, .long lo, .long rx, .long ry])), (asl, .inl (cZ, 576, .inl (bF (zeroTo fsl k)))), (apl, .inl (cJ, 4, .inr (.inl (vp_updL (vp_updL fpl 0 (-100)) 1 (-100)))))] := hD
      refine lv_aload_n hx hb dX5_reset_55 rfl (lv_at hl 0 rfl) ?_
      refine va_get (D := (dC, dI)) (ci := 5) (v := .ref apl) (C := RX5) (T := TX5) (N := 25) hx hb hts hi5 hown hK hP 0 rfl rfl 9 (by decide) f30 (fun _ h9 => h9) rfl dX5_reset_56 ?_
      refine lv_iconst (v := (nI 2)) hx hb dX5_reset_59 (by decide) ?_
      refine lv_ldc2 hx hb hown (hts (.constantLong RX5 69 (8)) (by decide +kernel)) dX5_reset_60 ?_
      refine va_last hx hb hK hP hD hS 2 0 rfl rfl (vp_in_nI (show 2 < 4 by omega) (by omega)) dX5_reset_63 (fun H locs hP hD hS => ?_)
      rw [show (nI 2).toNatClampNeg = 2 from nI_clamp (show 2 < 2 ^ 31 by omega)] at hP hD
      have hP : va_P (dC, dI) vwCl [(om, .inr (5, [.int (nI cd), .int (nI 0), .ref apx, .ref apy, .ref act, .int (nI 0), .ref asd, .ref amv, .ref asl, .ref apl, .ref asw, .int (nI 0), .ref aor, .int (nI nc), .ref aon, .ref atw, .long mx, .long my, .ref aup, .ref alw, .int (nI nm), .long up, .long lo, .long rx, .long ry])), (asl, .inl (cZ, 576, .inl (bF (zeroTo fsl k)))), (apl, .inl (cJ, 4, .inr (.inl (vp_updL (vp_updL (vp_updL fpl 0 (-100)) 1 (-100)) 2 8))))] H := hP
      have hD : va_D A [(om, .inr (5, [.int (nI cd), .int (nI 0), .ref apx, .ref apy, .ref act, .int (nI 0), .ref asd, .ref amv, .ref asl, .ref apl, .ref asw, .int (nI 0), .ref aor, .int (nI nc), .ref aon, .ref atw, .long mx, .long my, .ref aup, .ref alw, .int (nI nm), .long up, .long lo, .long rx, .long ry])), (asl, .inl (cZ, 576, .inl (bF (zeroTo fsl k)))), (apl, .inl (cJ, 4, .inr (.inl (vp_updL (vp_updL (vp_updL fpl 0 (-100)) 1 (-100)) 2 8))))] := hD
      refine lv_aload_n hx hb dX5_reset_64 rfl (lv_at hl 0 rfl) ?_
      refine va_get (D := (dC, dI)) (ci := 5) (v := .ref apl) (C := RX5) (T := TX5) (N := 25) hx hb hts hi5 hown hK hP 0 rfl rfl 9 (by decide) f30 (fun _ h9 => h9) rfl dX5_reset_65 ?_
      refine lv_iconst (v := (nI 3)) hx hb dX5_reset_68 (by decide) ?_
      refine lv_ldc2 hx hb hown (hts (.constantLong RX5 69 (8)) (by decide +kernel)) dX5_reset_69 ?_
      refine va_last hx hb hK hP hD hS 2 0 rfl rfl (vp_in_nI (show 3 < 4 by omega) (by omega)) dX5_reset_72 (fun H locs hP hD hS => ?_)
      rw [show (nI 3).toNatClampNeg = 3 from nI_clamp (show 3 < 2 ^ 31 by omega)] at hP hD
      have hP : va_P (dC, dI) vwCl [(om, .inr (5, [.int (nI cd), .int (nI 0), .ref apx, .ref apy, .ref act, .int (nI 0), .ref asd, .ref amv, .ref asl, .ref apl, .ref asw, .int (nI 0), .ref aor, .int (nI nc), .ref aon, .ref atw, .long mx, .long my, .ref aup, .ref alw, .int (nI nm), .long up, .long lo, .long rx, .long ry])), (asl, .inl (cZ, 576, .inl (bF (zeroTo fsl k)))), (apl, .inl (cJ, 4, .inr (.inl (vp_updL (vp_updL (vp_updL (vp_updL fpl 0 (-100)) 1 (-100)) 2 8) 3 8))))] H := hP
      have hD : va_D A [(om, .inr (5, [.int (nI cd), .int (nI 0), .ref apx, .ref apy, .ref act, .int (nI 0), .ref asd, .ref amv, .ref asl, .ref apl, .ref asw, .int (nI 0), .ref aor, .int (nI nc), .ref aon, .ref atw, .long mx, .long my, .ref aup, .ref alw, .int (nI nm), .long up, .long lo, .long rx, .long ry])), (asl, .inl (cZ, 576, .inl (bF (zeroTo fsl k)))), (apl, .inl (cJ, 4, .inr (.inl (vp_updL (vp_updL (vp_updL (vp_updL fpl 0 (-100)) 1 (-100)) 2 8) 3 8))))] := hD
      rw [hk9] at hP hD
      exact kEv hx hb hr hlocks hP hK hD hS dX5_reset_73
    · rw [nI_leI (by omega) (by omega), Nat.not_le] at c21
      refine lv_aload_n hx hb dX5_reset_24 rfl (lv_at hl 0 rfl) ?_
      refine va_get (D := (dC, dI)) (ci := 5) (v := .ref asl) (C := RX5) (T := TX5) (N := 25) hx hb hts hi5 hown hK hP 0 rfl rfl 8 (by decide) f26 (fun _ h9 => h9) rfl dX5_reset_25 ?_
      refine lv_iload_n hx hb dX5_reset_28 rfl (lv_at hl 1 rfl) ?_
      refine lv_iconst (v := (nI 0)) hx hb dX5_reset_29 (by decide) ?_
      refine va_zast hx hb hK hP hD hS 1 2 rfl rfl (vp_in_nI (show k < 576 by omega) (by omega)) dX5_reset_30 (fun H locs hP hD hS => ?_)
      rw [show (nI k).toNatClampNeg = k from nI_clamp (show k < 2 ^ 31 by omega)] at hP hD
      rw [show vp_nar .boolean (nI 0) = bI false from rfl, show upd (bF (zeroTo fsl k)) k (bI false) = (bF (va_up (zeroTo fsl k) k false)) from bF_upd _ _ _] at hP hD
      have hP : va_P (dC, dI) vwCl [(om, .inr (5, [.int (nI cd), .int (nI 0), .ref apx, .ref apy, .ref act, .int (nI 0), .ref asd, .ref amv, .ref asl, .ref apl, .ref asw, .int (nI 0), .ref aor, .int (nI nc), .ref aon, .ref atw, .long mx, .long my, .ref aup, .ref alw, .int (nI nm), .long up, .long lo, .long rx, .long ry])), (asl, .inl (cZ, 576, .inl (bF (va_up (zeroTo fsl k) k false)))), (apl, .inl (cJ, 4, .inr (.inl fpl)))] H := hP
      have hD : va_D A [(om, .inr (5, [.int (nI cd), .int (nI 0), .ref apx, .ref apy, .ref act, .int (nI 0), .ref asd, .ref amv, .ref asl, .ref apl, .ref asw, .int (nI 0), .ref aor, .int (nI nc), .ref aon, .ref atw, .long mx, .long my, .ref aup, .ref alw, .int (nI nm), .long up, .long lo, .long rx, .long ry])), (asl, .inl (cZ, 576, .inl (bF (va_up (zeroTo fsl k) k false)))), (apl, .inl (cJ, 4, .inr (.inl fpl)))] := hD
      refine lv_iinc (v := (nI (k + 1))) (lv' := [(1, .int (nI (k + 1))), (0, .ref om)]) hx hb dX5_reset_31 hl (k := 1) rfl (show (nI k) + Int32.ofInt 1 = nI (k + 1) from nI_add k 1) (by decide) rfl (fun ls hl => ?_)
      refine lv_goto (tgt := 17) hx hb dX5_reset_34 (by decide) ?_
      rw [zeroTo_s] at hP hD
      exact ih17 (k + 1) _ _ _ ⟨hP, hD, hS, lv_sub hl [1, 0] rfl, (by omega)⟩ (by simp only []; omega)
  · rw [← zeroTo_0 fsl] at hP hD
    exact ⟨hP, hD, hS, lv_sub hl [1, 0] rfl, Nat.zero_le _⟩

set_option maxHeartbeats 4000000 in
set_option maxRecDepth 100000 in
theorem tX5_isIn (l : Launch) (dC : Nat → ClassId) (dI : Nat → Nat → Nat) (v : Int64)  : PMi l yX5_isIn wsX5_isIn { frames := 0, cells := 0, slots := 0, locals := 0 } [.long v] (dC, dI) [] [] (bI (decide (-10000 ≤ v ∧ v ≤ 10000))) := by
  refine kOf (cc := cX5_isIn) (maxL := 2) (ret := (some .boolean)) (by decide) rfl (Nat.le_of_ble_eq_true rfl) ?_
  intro p e s m below meth c hx hb hr hml hts hown hlocks hB ls hl
  obtain ⟨hP, hK⟩ := hB
  have hl : lv_has ls 2 [(0, .long v)] := hl
  refine lv_lload_n hx hb dX5_isIn_0 rfl (lv_at hl 0 rfl) ?_
  refine lv_ldc2 hx hb hown (hts (.constantLong RX5 71 (-10000)) (by decide +kernel)) dX5_isIn_1 ?_
  refine W.lcmp hx hb dX5_isIn_4 ?_
  refine lv_if_lt (tgt := 20) hx hb dX5_isIn_5 (by decide) (fun c5 => ?_) (fun c5 => ?_)
  · rw [lg_cmp_lt] at c5
    refine lv_iconst (v := (nI 0)) hx hb dX5_isIn_20 (by decide) ?_
    exact kRz hx hb hr hlocks dX5_isIn_21 (kz0 (by (try simp only [Int64.lt_iff_toInt_lt, Int64.le_iff_toInt_le, ← Int64.toInt_inj, Int32.lt_iff_toInt_lt, Int32.le_iff_toInt_le, ← Int32.toInt_inj] at c5 ⊢); omega))
  · rw [lg_cmp_lt, Int64.not_lt] at c5
    refine lv_lload_n hx hb dX5_isIn_8 rfl (lv_at hl 0 rfl) ?_
    refine lv_ldc2 hx hb hown (hts (.constantLong RX5 73 (10000)) (by decide +kernel)) dX5_isIn_9 ?_
    refine W.lcmp hx hb dX5_isIn_12 ?_
    refine lv_if_gt (tgt := 20) hx hb dX5_isIn_13 (by decide) (fun c13 => ?_) (fun c13 => ?_)
    · rw [lg_cmp_gt] at c13
      refine lv_iconst (v := (nI 0)) hx hb dX5_isIn_20 (by decide) ?_
      exact kRz hx hb hr hlocks dX5_isIn_21 (kz0 (by (try simp only [Int64.lt_iff_toInt_lt, Int64.le_iff_toInt_le, ← Int64.toInt_inj, Int32.lt_iff_toInt_lt, Int32.le_iff_toInt_le, ← Int32.toInt_inj] at c5 c13 ⊢); omega))
    · rw [lg_cmp_gt, Int64.not_lt] at c13
      refine lv_iconst (v := (nI 1)) hx hb dX5_isIn_16 (by decide) ?_
      refine lv_goto (tgt := 21) hx hb dX5_isIn_17 (by decide) ?_
      exact kRz hx hb hr hlocks dX5_isIn_21 (kz1 (by (try simp only [Int64.lt_iff_toInt_lt, Int64.le_iff_toInt_le, ← Int64.toInt_inj, Int32.lt_iff_toInt_lt, Int32.le_iff_toInt_le, ← Int32.toInt_inj] at c5 c13 ⊢); omega))

set_option maxHeartbeats 4000000 in
set_option maxRecDepth 100000 in
theorem tX5_isShape (l : Launch) (dC : Nat → ClassId) (dI : Nat → Nat → Nat) (cJ cI cZ : ClassId) (om cd ns apx apy act nb asd amv asl apl asw nw aor nc aon atw aup alw nm : Nat) (mx my up lo rx ry : Int64) (si : Int32)  : PMi l yX5_isShape wsX5_isShape { frames := 0, cells := 0, slots := 0, locals := 0 } [.ref om, .int si] (dC, dI) [(om, .inr (5, [.int (nI cd), .int (nI ns), .ref apx, .ref apy, .ref act, .int (nI nb), .ref asd, .ref amv, .ref asl, .ref apl, .ref asw, .int (nI nw), .ref aor, .int (nI nc), .ref aon, .ref atw, .long mx, .long my, .ref aup, .ref alw, .int (nI nm), .long up, .long lo, .long rx, .long ry]))] [(cJ, .long), (cI, .int), (cZ, .boolean)] (bI (decide (0 ≤ si ∧ si < nI ns))) := by
  refine kOf (cc := cX5_isShape) (maxL := 2) (ret := (some .boolean)) (by decide) rfl (Nat.le_of_ble_eq_true rfl) ?_
  intro p e s m below meth c hx hb hr hml hts hown hlocks hB ls hl
  obtain ⟨hP, hK⟩ := hB
  have hl : lv_has ls 2 [(0, .ref om), (1, .int si)] := hl
  have hi5 : ∀ w ∈ u_ws RX5 TX5 25, w ∈ wsX5_isShape := by decide +kernel
  have f58 := hts (.fieldLink RX5 58 "SweptBoxesModel" "shapes" "I") (by decide +kernel)
  refine lv_iload_n hx hb dX5_isShape_0 rfl (lv_at hl 1 rfl) ?_
  refine lv_if_lt (tgt := 16) hx hb dX5_isShape_1 (by decide) (fun c1 => ?_) (fun c1 => ?_)
  · skip
    refine lv_iconst (v := (nI 0)) hx hb dX5_isShape_16 (by decide) ?_
    exact kRz hx hb hr hlocks dX5_isShape_17 (kz0 (by (try simp only [Int64.lt_iff_toInt_lt, Int64.le_iff_toInt_le, ← Int64.toInt_inj, Int32.lt_iff_toInt_lt, Int32.le_iff_toInt_le, ← Int32.toInt_inj] at c1 ⊢); omega))
  · skip
    refine lv_iload_n hx hb dX5_isShape_4 rfl (lv_at hl 1 rfl) ?_
    refine lv_aload_n hx hb dX5_isShape_5 rfl (lv_at hl 0 rfl) ?_
    refine va_get (D := (dC, dI)) (ci := 5) (v := .int (nI ns)) (C := RX5) (T := TX5) (N := 25) hx hb hts hi5 hown hK hP 0 rfl rfl 1 (by decide) f58 (fun _ h9 => h9) rfl dX5_isShape_6 ?_
    refine lv_icmp_ge (tgt := 16) hx hb dX5_isShape_9 (by decide) (fun c9 => ?_) (fun c9 => ?_)
    · skip
      refine lv_iconst (v := (nI 0)) hx hb dX5_isShape_16 (by decide) ?_
      exact kRz hx hb hr hlocks dX5_isShape_17 (kz0 (by (try simp only [Int64.lt_iff_toInt_lt, Int64.le_iff_toInt_le, ← Int64.toInt_inj, Int32.lt_iff_toInt_lt, Int32.le_iff_toInt_le, ← Int32.toInt_inj] at c1 c9 ⊢); omega))
    · skip
      refine lv_iconst (v := (nI 1)) hx hb dX5_isShape_12 (by decide) ?_
      refine lv_goto (tgt := 17) hx hb dX5_isShape_13 (by decide) ?_
      exact kRz hx hb hr hlocks dX5_isShape_17 (kz1 (by (try simp only [Int64.lt_iff_toInt_lt, Int64.le_iff_toInt_le, ← Int64.toInt_inj, Int32.lt_iff_toInt_lt, Int32.le_iff_toInt_le, ← Int32.toInt_inj] at c1 c9 ⊢); omega))

set_option maxHeartbeats 4000000 in
set_option maxRecDepth 100000 in
theorem tX5_isBox (l : Launch) (dC : Nat → ClassId) (dI : Nat → Nat → Nat) (cJ cI cZ : ClassId) (om cd ns apx apy act nb asd amv asl apl asw nw aor nc aon atw aup alw nm : Nat) (mx my up lo rx ry : Int64) (si : Int32)  : PMi l yX5_isBox wsX5_isBox { frames := 0, cells := 0, slots := 0, locals := 0 } [.ref om, .int si] (dC, dI) [(om, .inr (5, [.int (nI cd), .int (nI ns), .ref apx, .ref apy, .ref act, .int (nI nb), .ref asd, .ref amv, .ref asl, .ref apl, .ref asw, .int (nI nw), .ref aor, .int (nI nc), .ref aon, .ref atw, .long mx, .long my, .ref aup, .ref alw, .int (nI nm), .long up, .long lo, .long rx, .long ry]))] [(cJ, .long), (cI, .int), (cZ, .boolean)] (bI (decide (0 ≤ si ∧ si < nI nb))) := by
  refine kOf (cc := cX5_isBox) (maxL := 2) (ret := (some .boolean)) (by decide) rfl (Nat.le_of_ble_eq_true rfl) ?_
  intro p e s m below meth c hx hb hr hml hts hown hlocks hB ls hl
  obtain ⟨hP, hK⟩ := hB
  have hl : lv_has ls 2 [(0, .ref om), (1, .int si)] := hl
  have hi5 : ∀ w ∈ u_ws RX5 TX5 25, w ∈ wsX5_isBox := by decide +kernel
  have f61 := hts (.fieldLink RX5 61 "SweptBoxesModel" "boxes" "I") (by decide +kernel)
  refine lv_iload_n hx hb dX5_isBox_0 rfl (lv_at hl 1 rfl) ?_
  refine lv_if_lt (tgt := 16) hx hb dX5_isBox_1 (by decide) (fun c1 => ?_) (fun c1 => ?_)
  · skip
    refine lv_iconst (v := (nI 0)) hx hb dX5_isBox_16 (by decide) ?_
    exact kRz hx hb hr hlocks dX5_isBox_17 (kz0 (by (try simp only [Int64.lt_iff_toInt_lt, Int64.le_iff_toInt_le, ← Int64.toInt_inj, Int32.lt_iff_toInt_lt, Int32.le_iff_toInt_le, ← Int32.toInt_inj] at c1 ⊢); omega))
  · skip
    refine lv_iload_n hx hb dX5_isBox_4 rfl (lv_at hl 1 rfl) ?_
    refine lv_aload_n hx hb dX5_isBox_5 rfl (lv_at hl 0 rfl) ?_
    refine va_get (D := (dC, dI)) (ci := 5) (v := .int (nI nb)) (C := RX5) (T := TX5) (N := 25) hx hb hts hi5 hown hK hP 0 rfl rfl 5 (by decide) f61 (fun _ h9 => h9) rfl dX5_isBox_6 ?_
    refine lv_icmp_ge (tgt := 16) hx hb dX5_isBox_9 (by decide) (fun c9 => ?_) (fun c9 => ?_)
    · skip
      refine lv_iconst (v := (nI 0)) hx hb dX5_isBox_16 (by decide) ?_
      exact kRz hx hb hr hlocks dX5_isBox_17 (kz0 (by (try simp only [Int64.lt_iff_toInt_lt, Int64.le_iff_toInt_le, ← Int64.toInt_inj, Int32.lt_iff_toInt_lt, Int32.le_iff_toInt_le, ← Int32.toInt_inj] at c1 c9 ⊢); omega))
    · skip
      refine lv_iconst (v := (nI 1)) hx hb dX5_isBox_12 (by decide) ?_
      refine lv_goto (tgt := 17) hx hb dX5_isBox_13 (by decide) ?_
      exact kRz hx hb hr hlocks dX5_isBox_17 (kz1 (by (try simp only [Int64.lt_iff_toInt_lt, Int64.le_iff_toInt_le, ← Int64.toInt_inj, Int32.lt_iff_toInt_lt, Int32.le_iff_toInt_le, ← Int32.toInt_inj] at c1 c9 ⊢); omega))

def mTurn (ax ay bx by_ cx cy : Int64) : Int64 := (bx - ax) * (cy - ay) - (by_ - ay) * (cx - ax)
def mBetw (a b v : Int64) : Prop := (a ≤ v ∧ v ≤ b) ∨ (b ≤ v ∧ v ≤ a)
def mOn (ax ay bx by_ x y : Int64) : Prop := mTurn ax ay bx by_ x y = 0 ∧ mBetw ax bx x ∧ mBetw ay by_ y
set_option maxHeartbeats 4000000 in
set_option maxRecDepth 100000 in
theorem tX5_turn (l : Launch) (dC : Nat → ClassId) (dI : Nat → Nat → Nat) (ax ay bx by_ cx cy : Int64)  : PMl l yX5_turn wsX5_turn { frames := 0, cells := 0, slots := 0, locals := 0 } [.long ax, .long ay, .long bx, .long by_, .long cx, .long cy] (dC, dI) [] [] (mTurn ax ay bx by_ cx cy) := by
  refine kOf (cc := cX5_turn) (maxL := 12) (ret := (some .long)) (by decide) rfl (Nat.le_of_ble_eq_true rfl) ?_
  intro p e s m below meth c hx hb hr hml hts hown hlocks hB ls hl
  obtain ⟨hP, hK⟩ := hB
  have hl : lv_has ls 12 [(0, .long ax), (2, .long ay), (4, .long bx), (6, .long by_), (8, .long cx), (10, .long cy)] := hl
  refine lv_lload hx hb dX5_turn_0 (lv_at hl 2 rfl) ?_
  refine lv_lload_n hx hb dX5_turn_2 rfl (lv_at hl 0 rfl) ?_
  refine lv_lsub hx hb dX5_turn_3 ?_
  refine lv_lload hx hb dX5_turn_4 (lv_at hl 5 rfl) ?_
  refine lv_lload_n hx hb dX5_turn_6 rfl (lv_at hl 1 rfl) ?_
  refine lv_lsub hx hb dX5_turn_7 ?_
  refine lv_lmul hx hb dX5_turn_8 ?_
  refine lv_lload hx hb dX5_turn_9 (lv_at hl 3 rfl) ?_
  refine lv_lload_n hx hb dX5_turn_11 rfl (lv_at hl 1 rfl) ?_
  refine lv_lsub hx hb dX5_turn_12 ?_
  refine lv_lload hx hb dX5_turn_13 (lv_at hl 4 rfl) ?_
  refine lv_lload_n hx hb dX5_turn_15 rfl (lv_at hl 0 rfl) ?_
  refine lv_lsub hx hb dX5_turn_16 ?_
  refine lv_lmul hx hb dX5_turn_17 ?_
  refine lv_lsub hx hb dX5_turn_18 ?_
  exact kRl hx hb hr hlocks dX5_turn_19 rfl

set_option maxHeartbeats 4000000 in
set_option maxRecDepth 100000 in
theorem tX5_isBetween (l : Launch) (dC : Nat → ClassId) (dI : Nat → Nat → Nat) (a b v : Int64)  : PMi l yX5_isBetween wsX5_isBetween { frames := 0, cells := 0, slots := 0, locals := 0 } [.long a, .long b, .long v] (dC, dI) [] [] (bI (pB (mBetw a b v))) := by
  refine kOf (cc := cX5_isBetween) (maxL := 6) (ret := (some .boolean)) (by decide) rfl (Nat.le_of_ble_eq_true rfl) ?_
  intro p e s m below meth c hx hb hr hml hts hown hlocks hB ls hl
  obtain ⟨hP, hK⟩ := hB
  have hl : lv_has ls 6 [(0, .long a), (2, .long b), (4, .long v)] := hl
  refine lv_lload_n hx hb dX5_isBetween_0 rfl (lv_at hl 0 rfl) ?_
  refine lv_lload hx hb dX5_isBetween_1 (lv_at hl 2 rfl) ?_
  refine W.lcmp hx hb dX5_isBetween_3 ?_
  refine lv_if_gt (tgt := 14) hx hb dX5_isBetween_4 (by decide) (fun c4 => ?_) (fun c4 => ?_)
  · rw [lg_cmp_gt] at c4
    refine lv_lload_n hx hb dX5_isBetween_14 rfl (lv_at hl 1 rfl) ?_
    refine lv_lload hx hb dX5_isBetween_15 (lv_at hl 2 rfl) ?_
    refine W.lcmp hx hb dX5_isBetween_17 ?_
    refine lv_if_gt (tgt := 32) hx hb dX5_isBetween_18 (by decide) (fun c18 => ?_) (fun c18 => ?_)
    · rw [lg_cmp_gt] at c18
      refine lv_iconst (v := (nI 0)) hx hb dX5_isBetween_32 (by decide) ?_
      exact kRz hx hb hr hlocks dX5_isBetween_33 (kp0 (by unfold mBetw; (try simp only [Int64.lt_iff_toInt_lt, Int64.le_iff_toInt_le, ← Int64.toInt_inj] at c4 c18 ⊢); omega))
    · rw [lg_cmp_gt, Int64.not_lt] at c18
      refine lv_lload hx hb dX5_isBetween_21 (lv_at hl 2 rfl) ?_
      refine lv_lload_n hx hb dX5_isBetween_23 rfl (lv_at hl 0 rfl) ?_
      refine W.lcmp hx hb dX5_isBetween_24 ?_
      refine lv_if_gt (tgt := 32) hx hb dX5_isBetween_25 (by decide) (fun c25 => ?_) (fun c25 => ?_)
      · rw [lg_cmp_gt] at c25
        refine lv_iconst (v := (nI 0)) hx hb dX5_isBetween_32 (by decide) ?_
        exact kRz hx hb hr hlocks dX5_isBetween_33 (kp0 (by unfold mBetw; (try simp only [Int64.lt_iff_toInt_lt, Int64.le_iff_toInt_le, ← Int64.toInt_inj] at c4 c18 c25 ⊢); omega))
      · rw [lg_cmp_gt, Int64.not_lt] at c25
        refine lv_iconst (v := (nI 1)) hx hb dX5_isBetween_28 (by decide) ?_
        refine lv_goto (tgt := 33) hx hb dX5_isBetween_29 (by decide) ?_
        exact kRz hx hb hr hlocks dX5_isBetween_33 (kp1 (by unfold mBetw; (try simp only [Int64.lt_iff_toInt_lt, Int64.le_iff_toInt_le, ← Int64.toInt_inj] at c4 c18 c25 ⊢); omega))
  · rw [lg_cmp_gt, Int64.not_lt] at c4
    refine lv_lload hx hb dX5_isBetween_7 (lv_at hl 2 rfl) ?_
    refine lv_lload_n hx hb dX5_isBetween_9 rfl (lv_at hl 1 rfl) ?_
    refine W.lcmp hx hb dX5_isBetween_10 ?_
    refine lv_if_le (tgt := 28) hx hb dX5_isBetween_11 (by decide) (fun c11 => ?_) (fun c11 => ?_)
    · rw [lg_cmp_le] at c11
      refine lv_iconst (v := (nI 1)) hx hb dX5_isBetween_28 (by decide) ?_
      refine lv_goto (tgt := 33) hx hb dX5_isBetween_29 (by decide) ?_
      exact kRz hx hb hr hlocks dX5_isBetween_33 (kp1 (by unfold mBetw; (try simp only [Int64.lt_iff_toInt_lt, Int64.le_iff_toInt_le, ← Int64.toInt_inj] at c4 c11 ⊢); omega))
    · rw [lg_cmp_le, Int64.not_le] at c11
      refine lv_lload_n hx hb dX5_isBetween_14 rfl (lv_at hl 1 rfl) ?_
      refine lv_lload hx hb dX5_isBetween_15 (lv_at hl 2 rfl) ?_
      refine W.lcmp hx hb dX5_isBetween_17 ?_
      refine lv_if_gt (tgt := 32) hx hb dX5_isBetween_18 (by decide) (fun c18 => ?_) (fun c18 => ?_)
      · rw [lg_cmp_gt] at c18
        refine lv_iconst (v := (nI 0)) hx hb dX5_isBetween_32 (by decide) ?_
        exact kRz hx hb hr hlocks dX5_isBetween_33 (kp0 (by unfold mBetw; (try simp only [Int64.lt_iff_toInt_lt, Int64.le_iff_toInt_le, ← Int64.toInt_inj] at c4 c11 c18 ⊢); omega))
      · rw [lg_cmp_gt, Int64.not_lt] at c18
        refine lv_lload hx hb dX5_isBetween_21 (lv_at hl 2 rfl) ?_
        refine lv_lload_n hx hb dX5_isBetween_23 rfl (lv_at hl 0 rfl) ?_
        refine W.lcmp hx hb dX5_isBetween_24 ?_
        refine lv_if_gt (tgt := 32) hx hb dX5_isBetween_25 (by decide) (fun c25 => ?_) (fun c25 => ?_)
        · rw [lg_cmp_gt] at c25
          refine lv_iconst (v := (nI 0)) hx hb dX5_isBetween_32 (by decide) ?_
          exact kRz hx hb hr hlocks dX5_isBetween_33 (kp0 (by unfold mBetw; (try simp only [Int64.lt_iff_toInt_lt, Int64.le_iff_toInt_le, ← Int64.toInt_inj] at c4 c11 c18 c25 ⊢); omega))
        · rw [lg_cmp_gt, Int64.not_lt] at c25
          refine lv_iconst (v := (nI 1)) hx hb dX5_isBetween_28 (by decide) ?_
          refine lv_goto (tgt := 33) hx hb dX5_isBetween_29 (by decide) ?_
          exact kRz hx hb hr hlocks dX5_isBetween_33 (kp1 (by unfold mBetw; (try simp only [Int64.lt_iff_toInt_lt, Int64.le_iff_toInt_le, ← Int64.toInt_inj] at c4 c11 c18 c25 ⊢); omega))

set_option maxHeartbeats 4000000 in
set_option maxRecDepth 100000 in
theorem tX5_isOn (l : Launch) (dC : Nat → ClassId) (dI : Nat → Nat → Nat) (ax ay bx by_ x y : Int64)  : PMi l yX5_isOn wsX5_isOn { frames := 1, cells := 0, slots := 0, locals := 31 } [.long ax, .long ay, .long bx, .long by_, .long x, .long y] (dC, dI) [] [] (bI (pB (mOn ax ay bx by_ x y))) := by
  refine kOf (cc := cX5_isOn) (maxL := 12) (ret := (some .boolean)) (by decide) rfl (Nat.le_of_ble_eq_true rfl) ?_
  intro p e s m below meth c hx hb hr hml hts hown hlocks hB ls hl
  obtain ⟨hP, hK⟩ := hB
  have hl : lv_has ls 12 [(0, .long ax), (2, .long ay), (4, .long bx), (6, .long by_), (8, .long x), (10, .long y)] := hl
  refine lv_lload_n hx hb dX5_isOn_0 rfl (lv_at hl 0 rfl) ?_
  refine lv_lload_n hx hb dX5_isOn_1 rfl (lv_at hl 1 rfl) ?_
  refine lv_lload hx hb dX5_isOn_2 (lv_at hl 2 rfl) ?_
  refine lv_lload hx hb dX5_isOn_4 (lv_at hl 3 rfl) ?_
  refine lv_lload hx hb dX5_isOn_6 (lv_at hl 4 rfl) ?_
  refine lv_lload hx hb dX5_isOn_8 (lv_at hl 5 rfl) ?_
  refine kpSl (As := [.long ax, .long ay, .long bx, .long by_, .long x, .long y]) (rest := []) (WC := []) (tyC := []) ⟨hx, hb, hml, hown, hts⟩ (tX5_turn l dC dI ax ay bx by_ x y) (cwS 6 hts gX5_isOn_X5_turn rfl rfl rfl (by decide +kernel) ⟨Nat.le_of_ble_eq_true rfl, Nat.le_of_ble_eq_true rfl⟩) (kPick (isC := []) hP rfl) (hK.sub [] rfl) rfl rfl hl.1 (Nat.le_of_ble_eq_true rfl) dX5_isOn_10 ⟨Nat.le_of_ble_eq_true rfl, Nat.le_of_ble_eq_true rfl⟩ ?_
  refine lv_lconst (v := 0) hx hb dX5_isOn_13 (by decide) ?_
  refine W.lcmp hx hb dX5_isOn_14 ?_
  refine lv_if_ne (tgt := 44) hx hb dX5_isOn_15 (by decide) (fun c15 => ?_) (fun c15 => ?_)
  · simp only [ne_eq, lg_cmp_eq] at c15
    refine lv_iconst (v := (nI 0)) hx hb dX5_isOn_44 (by decide) ?_
    exact kRz hx hb hr hlocks dX5_isOn_45 (kp0 (fun h => c15 h.1))
  · simp only [ne_eq, Decidable.not_not, lg_cmp_eq] at c15
    refine lv_lload_n hx hb dX5_isOn_18 rfl (lv_at hl 0 rfl) ?_
    refine lv_lload hx hb dX5_isOn_19 (lv_at hl 2 rfl) ?_
    refine lv_lload hx hb dX5_isOn_21 (lv_at hl 4 rfl) ?_
    refine kpSi (As := [.long ax, .long bx, .long x]) (rest := []) (WC := []) (tyC := []) ⟨hx, hb, hml, hown, hts⟩ (tX5_isBetween l dC dI ax bx x) (cwS 3 hts gX5_isOn_X5_isBetween rfl rfl rfl (by decide +kernel) ⟨Nat.le_of_ble_eq_true rfl, Nat.le_of_ble_eq_true rfl⟩) (kPick (isC := []) hP rfl) (hK.sub [] rfl) rfl rfl hl.1 (Nat.le_of_ble_eq_true rfl) dX5_isOn_23 ⟨Nat.le_of_ble_eq_true rfl, Nat.le_of_ble_eq_true rfl⟩ ?_
    refine lv_if_eq (tgt := 44) hx hb dX5_isOn_26 (by decide) (fun c26 => ?_) (fun c26 => ?_)
    · replace c26 := bI_0 c26; replace c26 := pB_not c26
      refine lv_iconst (v := (nI 0)) hx hb dX5_isOn_44 (by decide) ?_
      exact kRz hx hb hr hlocks dX5_isOn_45 (kp0 (fun h => c26 h.2.1))
    · replace c26 := bI_n c26; replace c26 := pB_iff.mp c26
      refine lv_lload_n hx hb dX5_isOn_29 rfl (lv_at hl 1 rfl) ?_
      refine lv_lload hx hb dX5_isOn_30 (lv_at hl 3 rfl) ?_
      refine lv_lload hx hb dX5_isOn_32 (lv_at hl 5 rfl) ?_
      refine kpSi (As := [.long ay, .long by_, .long y]) (rest := []) (WC := []) (tyC := []) ⟨hx, hb, hml, hown, hts⟩ (tX5_isBetween l dC dI ay by_ y) (cwS 3 hts gX5_isOn_X5_isBetween rfl rfl rfl (by decide +kernel) ⟨Nat.le_of_ble_eq_true rfl, Nat.le_of_ble_eq_true rfl⟩) (kPick (isC := []) hP rfl) (hK.sub [] rfl) rfl rfl hl.1 (Nat.le_of_ble_eq_true rfl) dX5_isOn_34 ⟨Nat.le_of_ble_eq_true rfl, Nat.le_of_ble_eq_true rfl⟩ ?_
      refine lv_if_eq (tgt := 44) hx hb dX5_isOn_37 (by decide) (fun c37 => ?_) (fun c37 => ?_)
      · replace c37 := bI_0 c37; replace c37 := pB_not c37
        refine lv_iconst (v := (nI 0)) hx hb dX5_isOn_44 (by decide) ?_
        exact kRz hx hb hr hlocks dX5_isOn_45 (kp0 (fun h => c37 h.2.2))
      · replace c37 := bI_n c37; replace c37 := pB_iff.mp c37
        refine lv_iconst (v := (nI 1)) hx hb dX5_isOn_40 (by decide) ?_
        refine lv_goto (tgt := 45) hx hb dX5_isOn_41 (by decide) ?_
        exact kRz hx hb hr hlocks dX5_isOn_45 (kp1 ⟨c15, c26, c37⟩)

def mSide (v : Int64) : Int32 := if 0 < v then 1 else if v < 0 then -1 else 0
set_option maxHeartbeats 4000000 in
set_option maxRecDepth 100000 in
theorem tX5_side (l : Launch) (dC : Nat → ClassId) (dI : Nat → Nat → Nat) (v : Int64)  : PMi l yX5_side wsX5_side { frames := 0, cells := 0, slots := 0, locals := 0 } [.long v] (dC, dI) [] [] (mSide v) := by
  refine kOf (cc := cX5_side) (maxL := 2) (ret := (some .int)) (by decide) rfl (Nat.le_of_ble_eq_true rfl) ?_
  intro p e s m below meth c hx hb hr hml hts hown hlocks hB ls hl
  obtain ⟨hP, hK⟩ := hB
  have hl : lv_has ls 2 [(0, .long v)] := hl
  refine lv_lload_n hx hb dX5_side_0 rfl (lv_at hl 0 rfl) ?_
  refine lv_lconst (v := 0) hx hb dX5_side_1 (by decide) ?_
  refine W.lcmp hx hb dX5_side_2 ?_
  refine lv_if_le (tgt := 10) hx hb dX5_side_3 (by decide) (fun c3 => ?_) (fun c3 => ?_)
  · rw [lg_cmp_le] at c3
    refine lv_lload_n hx hb dX5_side_10 rfl (lv_at hl 0 rfl) ?_
    refine lv_lconst (v := 0) hx hb dX5_side_11 (by decide) ?_
    refine W.lcmp hx hb dX5_side_12 ?_
    refine lv_if_ge (tgt := 20) hx hb dX5_side_13 (by decide) (fun c13 => ?_) (fun c13 => ?_)
    · rw [lg_cmp_ge] at c13
      refine lv_iconst (v := 0) hx hb dX5_side_20 (by decide) ?_
      exact kRi hx hb hr hlocks dX5_side_21 (by unfold mSide; (repeat' split); all_goals first | rfl | (exfalso; (try simp only [Int64.lt_iff_toInt_lt, Int64.le_iff_toInt_le, ← Int64.toInt_inj] at *); omega))
    · rw [lg_cmp_ge, Int64.not_le] at c13
      refine lv_iconst (v := (-1)) hx hb dX5_side_16 (by decide) ?_
      refine lv_goto (tgt := 21) hx hb dX5_side_17 (by decide) ?_
      exact kRi hx hb hr hlocks dX5_side_21 (by unfold mSide; (repeat' split); all_goals first | rfl | (exfalso; (try simp only [Int64.lt_iff_toInt_lt, Int64.le_iff_toInt_le, ← Int64.toInt_inj] at *); omega))
  · rw [lg_cmp_le, Int64.not_le] at c3
    refine lv_iconst (v := 1) hx hb dX5_side_6 (by decide) ?_
    refine lv_goto (tgt := 21) hx hb dX5_side_7 (by decide) ?_
    exact kRi hx hb hr hlocks dX5_side_21 (by unfold mSide; (repeat' split); all_goals first | rfl | (exfalso; (try simp only [Int64.lt_iff_toInt_lt, Int64.le_iff_toInt_le, ← Int64.toInt_inj] at *); omega))

set_option maxHeartbeats 4000000 in
set_option maxRecDepth 100000 in
theorem tX5_isTile (l : Launch) (dC : Nat → ClassId) (dI : Nat → Nat → Nat) (a b : Int32)  : PMi l yX5_isTile wsX5_isTile { frames := 0, cells := 0, slots := 0, locals := 0 } [.int a, .int b] (dC, dI) [] [] (bI (decide (0 ≤ a ∧ a < 24 ∧ 0 ≤ b ∧ b < 24))) := by
  refine kOf (cc := cX5_isTile) (maxL := 2) (ret := (some .boolean)) (by decide) rfl (Nat.le_of_ble_eq_true rfl) ?_
  intro p e s m below meth c hx hb hr hml hts hown hlocks hB ls hl
  obtain ⟨hP, hK⟩ := hB
  have hl : lv_has ls 2 [(0, .int a), (1, .int b)] := hl
  refine lv_iload_n hx hb dX5_isTile_0 rfl (lv_at hl 0 rfl) ?_
  refine lv_if_lt (tgt := 24) hx hb dX5_isTile_1 (by decide) (fun c1 => ?_) (fun c1 => ?_)
  · skip
    refine lv_iconst (v := 0) hx hb dX5_isTile_24 (by decide) ?_
    exact kRz hx hb hr hlocks dX5_isTile_25 (kz0 (by (try simp only [Int64.lt_iff_toInt_lt, Int64.le_iff_toInt_le, ← Int64.toInt_inj, Int32.lt_iff_toInt_lt, Int32.le_iff_toInt_le, ← Int32.toInt_inj] at c1 ⊢); omega))
  · skip
    refine lv_iload_n hx hb dX5_isTile_4 rfl (lv_at hl 0 rfl) ?_
    refine lv_bipush (v := 24) hx hb dX5_isTile_5 (by decide) ?_
    refine lv_icmp_ge (tgt := 24) hx hb dX5_isTile_7 (by decide) (fun c7 => ?_) (fun c7 => ?_)
    · skip
      refine lv_iconst (v := 0) hx hb dX5_isTile_24 (by decide) ?_
      exact kRz hx hb hr hlocks dX5_isTile_25 (kz0 (by (try simp only [Int64.lt_iff_toInt_lt, Int64.le_iff_toInt_le, ← Int64.toInt_inj, Int32.lt_iff_toInt_lt, Int32.le_iff_toInt_le, ← Int32.toInt_inj] at c1 c7 ⊢); omega))
    · skip
      refine lv_iload_n hx hb dX5_isTile_10 rfl (lv_at hl 1 rfl) ?_
      refine lv_if_lt (tgt := 24) hx hb dX5_isTile_11 (by decide) (fun c11 => ?_) (fun c11 => ?_)
      · skip
        refine lv_iconst (v := 0) hx hb dX5_isTile_24 (by decide) ?_
        exact kRz hx hb hr hlocks dX5_isTile_25 (kz0 (by (try simp only [Int64.lt_iff_toInt_lt, Int64.le_iff_toInt_le, ← Int64.toInt_inj, Int32.lt_iff_toInt_lt, Int32.le_iff_toInt_le, ← Int32.toInt_inj] at c1 c7 c11 ⊢); omega))
      · skip
        refine lv_iload_n hx hb dX5_isTile_14 rfl (lv_at hl 1 rfl) ?_
        refine lv_bipush (v := 24) hx hb dX5_isTile_15 (by decide) ?_
        refine lv_icmp_ge (tgt := 24) hx hb dX5_isTile_17 (by decide) (fun c17 => ?_) (fun c17 => ?_)
        · skip
          refine lv_iconst (v := 0) hx hb dX5_isTile_24 (by decide) ?_
          exact kRz hx hb hr hlocks dX5_isTile_25 (kz0 (by (try simp only [Int64.lt_iff_toInt_lt, Int64.le_iff_toInt_le, ← Int64.toInt_inj, Int32.lt_iff_toInt_lt, Int32.le_iff_toInt_le, ← Int32.toInt_inj] at c1 c7 c11 c17 ⊢); omega))
        · skip
          refine lv_iconst (v := 1) hx hb dX5_isTile_20 (by decide) ?_
          refine lv_goto (tgt := 25) hx hb dX5_isTile_21 (by decide) ?_
          exact kRz hx hb hr hlocks dX5_isTile_25 (kz1 (by (try simp only [Int64.lt_iff_toInt_lt, Int64.le_iff_toInt_le, ← Int64.toInt_inj, Int32.lt_iff_toInt_lt, Int32.le_iff_toInt_le, ← Int32.toInt_inj] at c1 c7 c11 c17 ⊢); omega))
