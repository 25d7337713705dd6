set_option maxHeartbeats 4000000 in
set_option maxRecDepth 100000 in
theorem tX4_needIndex_o (l : Launch) (dC : Nat → ClassId) (dI : Nat → Nat → Nat) (a b : Nat) (ha : a < b) (hb_ : b < 1000) : MMv l yX4_needIndex wsX4_needIndex { frames := 0, cells := 0, slots := 0, locals := 0 } [.int (nI a), .int (nI b)] (dC, dI) [] [] [] := by
  intro sz
  refine kOf (cc := cX4_needIndex) (maxL := 2) (ret := none) (by decide) rfl (Nat.le_of_ble_eq_true rfl) ?_
  intro p e s m below meth c hx hb hr hml hts hown hlocks hB ls hl
  obtain ⟨hsz, hP, hK, hD0⟩ := hB
  subst hsz
  have hD := hD0.self (sz := s.heap.size)
  generalize hAe : va_A [] s.heap.size = A at hD ⊢
  have hA : ∀ q : Nat, s.heap.size ≤ q → A q := fun q h => by rw [← hAe]; exact Or.inr h
  have hS : va_S A s.heap s.heap [] := va_S.rf
  have hl : lv_has ls 2 [(0, .int (nI a)), (1, .int (nI b))] := hl
  refine lv_iload_n hx hb dX4_needIndex_0 rfl (lv_at hl 0 rfl) ?_
  refine lv_if_lt (tgt := 9) hx hb dX4_needIndex_1 (by decide) (fun c1 => ?_) (fun c1 => ?_)
  · rw [← nI_0, nI_ltI (by omega) (by omega)] at c1
    exfalso; omega
  · rw [← nI_0, nI_ltI (by omega) (by omega), Nat.not_lt] at c1
    refine lv_iload_n hx hb dX4_needIndex_4 rfl (lv_at hl 0 rfl) ?_
    refine lv_iload_n hx hb dX4_needIndex_5 rfl (lv_at hl 1 rfl) ?_
    refine lv_icmp_lt (tgt := 19) hx hb dX4_needIndex_6 (by decide) (fun c6 => ?_) (fun c6 => ?_)
    · rw [nI_ltI (by omega) (by omega)] at c6
      exact kEv hx hb hr hlocks hP hK hD hS dX4_needIndex_19
    · rw [nI_ltI (by omega) (by omega), Nat.not_lt] at c6
      exfalso; omega

set_option maxHeartbeats 4000000 in
set_option maxRecDepth 100000 in
theorem tX4_needInRange_o (l : Launch) (dC : Nat → ClassId) (dI : Nat → Nat → Nat) (x y : Int64) (hok : (-10000 ≤ x ∧ x ≤ 10000) ∧ (-10000 ≤ y ∧ y ≤ 10000)) : MMv l yX4_needInRange wsX4_needInRange { frames := 0, cells := 0, slots := 0, locals := 0 } [.long x, .long y] (dC, dI) [] [] [] := by
  intro sz
  refine kOf (cc := cX4_needInRange) (maxL := 4) (ret := none) (by decide) rfl (Nat.le_of_ble_eq_true rfl) ?_
  intro p e s m below meth c hx hb hr hml hts hown hlocks hB ls hl
  obtain ⟨hsz, hP, hK, hD0⟩ := hB
  subst hsz
  have hD := hD0.self (sz := s.heap.size)
  generalize hAe : va_A [] s.heap.size = A at hD ⊢
  have hA : ∀ q : Nat, s.heap.size ≤ q → A q := fun q h => by rw [← hAe]; exact Or.inr h
  have hS : va_S A s.heap s.heap [] := va_S.rf
  have hl : lv_has ls 4 [(0, .long x), (2, .long y)] := hl
  refine lv_lload_n hx hb dX4_needInRange_0 rfl (lv_at hl 0 rfl) ?_
  refine lv_ldc2 hx hb hown (hts (.constantLong RX4 210 (-10000)) (by decide +kernel)) dX4_needInRange_1 ?_
  refine W.lcmp hx hb dX4_needInRange_4 ?_
  refine lv_if_lt (tgt := 32) hx hb dX4_needInRange_5 (by decide) (fun c5 => ?_) (fun c5 => ?_)
  · rw [lg_cmp_lt] at c5
    exact absurd hok.1.1 (Int64.not_le.mpr c5)
  · rw [lg_cmp_lt, Int64.not_lt] at c5
    refine lv_lload_n hx hb dX4_needInRange_8 rfl (lv_at hl 0 rfl) ?_
    refine lv_ldc2 hx hb hown (hts (.constantLong RX4 212 (10000)) (by decide +kernel)) dX4_needInRange_9 ?_
    refine W.lcmp hx hb dX4_needInRange_12 ?_
    refine lv_if_gt (tgt := 32) hx hb dX4_needInRange_13 (by decide) (fun c13 => ?_) (fun c13 => ?_)
    · rw [lg_cmp_gt] at c13
      exact absurd hok.1.2 (Int64.not_le.mpr c13)
    · rw [lg_cmp_gt, Int64.not_lt] at c13
      refine lv_lload_n hx hb dX4_needInRange_16 rfl (lv_at hl 1 rfl) ?_
      refine lv_ldc2 hx hb hown (hts (.constantLong RX4 210 (-10000)) (by decide +kernel)) dX4_needInRange_17 ?_
      refine W.lcmp hx hb dX4_needInRange_20 ?_
      refine lv_if_lt (tgt := 32) hx hb dX4_needInRange_21 (by decide) (fun c21 => ?_) (fun c21 => ?_)
      · rw [lg_cmp_lt] at c21
        exact absurd hok.2.1 (Int64.not_le.mpr c21)
      · rw [lg_cmp_lt, Int64.not_lt] at c21
        refine lv_lload_n hx hb dX4_needInRange_24 rfl (lv_at hl 1 rfl) ?_
        refine lv_ldc2 hx hb hown (hts (.constantLong RX4 212 (10000)) (by decide +kernel)) dX4_needInRange_25 ?_
        refine W.lcmp hx hb dX4_needInRange_28 ?_
        refine lv_if_le (tgt := 42) hx hb dX4_needInRange_29 (by decide) (fun c29 => ?_) (fun c29 => ?_)
        · rw [lg_cmp_le] at c29
          exact kEv hx hb hr hlocks hP hK hD hS dX4_needInRange_42
        · rw [lg_cmp_le, Int64.not_le] at c29
          exact absurd hok.2.2 (Int64.not_le.mpr c29)

set_option maxHeartbeats 4000000 in
set_option maxRecDepth 100000 in
theorem tX4_needMeeting_o (l : Launch) (dC : Nat → ClassId) (dI : Nat → Nat → Nat) (ob ahl nh abl nb asr pb atr nt tb mt : Nat) (a b pt : Nat) (ha : a < nb) (hb_ : b < nb) (hp : pt < 2) (hn : nb ≤ 16) : MMv l yX4_needMeeting wsX4_needMeeting { frames := 1, cells := 0, slots := 0, locals := 21 } [.ref ob, .int (nI a), .int (nI b), .int (nI pt)] (dC, dI) [(ob, .inr (4, [.ref ahl, .int (nI nh), .ref abl, .int (nI nb), .ref asr, .ref pb, .ref atr, .int (nI nt), .ref tb, .ref mt]))] [(ob, .inr (4, [.ref ahl, .int (nI nh), .ref abl, .int (nI nb), .ref asr, .ref pb, .ref atr, .int (nI nt), .ref tb, .ref mt]))] [] := by
  intro sz
  refine kOf (cc := cX4_needMeeting) (maxL := 4) (ret := none) (by decide) rfl (Nat.le_of_ble_eq_true rfl) ?_
  intro p e s m below meth c hx hb hr hml hts hown hlocks hB ls hl
  obtain ⟨hsz, hP, hK, hD0⟩ := hB
  subst hsz
  have hD := hD0.self (sz := s.heap.size)
  generalize hAe : va_A [(ob, .inr (4, [.ref ahl, .int (nI nh), .ref abl, .int (nI nb), .ref asr, .ref pb, .ref atr, .int (nI nt), .ref tb, .ref mt]))] s.heap.size = A at hD ⊢
  have hA : ∀ q : Nat, s.heap.size ≤ q → A q := fun q h => by rw [← hAe]; exact Or.inr h
  have hS : va_S A s.heap s.heap [] := va_S.rf
  have hl : lv_has ls 4 [(0, .ref ob), (1, .int (nI a)), (2, .int (nI b)), (3, .int (nI pt))] := hl
  have hi4 : ∀ w ∈ u_ws RX4 TX4 10, w ∈ wsX4_needMeeting := by decide +kernel
  have f96 := hts (.fieldLink RX4 96 "SweptBoxes" "blockCount" "I") (by decide +kernel)
  refine lv_iload_n hx hb dX4_needMeeting_0 rfl (lv_at hl 1 rfl) ?_
  refine lv_aload_n hx hb dX4_needMeeting_1 rfl (lv_at hl 0 rfl) ?_
  refine va_get (D := (dC, dI)) (ci := 4) (v := .int (nI nb)) (C := RX4) (T := TX4) (N := 10) hx hb hts hi4 hown hK hP 0 rfl rfl 3 (by decide) f96 (fun _ h9 => h9) rfl dX4_needMeeting_2 ?_
  refine kmSv (As := [.int (nI a), .int (nI nb)]) (rest := []) (WC := []) (W2 := []) (WR := [(ob, .inr (4, [.ref ahl, .int (nI nh), .ref abl, .int (nI nb), .ref asr, .ref pb, .ref atr, .int (nI nt), .ref tb, .ref mt]))]) (WN := [(ob, .inr (4, [.ref ahl, .int (nI nh), .ref abl, .int (nI nb), .ref asr, .ref pb, .ref atr, .int (nI nt), .ref tb, .ref mt]))]) (tyC := []) (isC := []) (isR := [0]) (isN := [0]) (its := []) ⟨hx, hb, hml, hown, hts⟩ (tX4_needIndex_o l dC dI a nb (by omega) (by omega)) (va_cwS 2 hts gX4_needMeeting_X4_needIndex rfl rfl rfl (by decide +kernel) ⟨Nat.le_of_ble_eq_true rfl, Nat.le_of_ble_eq_true rfl⟩) hP hD hA hS hK rfl (by decide) rfl (by decide) (by decide) rfl (by decide) rfl rfl rfl hl.1 (Nat.le_of_ble_eq_true rfl) dX4_needMeeting_5 ⟨Nat.le_of_ble_eq_true rfl, Nat.le_of_ble_eq_true rfl⟩ (fun H locs hP hD hS => ?_)
  refine lv_iload_n hx hb dX4_needMeeting_8 rfl (lv_at hl 2 rfl) ?_
  refine lv_aload_n hx hb dX4_needMeeting_9 rfl (lv_at hl 0 rfl) ?_
  refine va_get (D := (dC, dI)) (ci := 4) (v := .int (nI nb)) (C := RX4) (T := TX4) (N := 10) hx hb hts hi4 hown hK hP 0 rfl rfl 3 (by decide) f96 (fun _ h9 => h9) rfl dX4_needMeeting_10 ?_
  refine kmSv (As := [.int (nI b), .int (nI nb)]) (rest := []) (WC := []) (W2 := []) (WR := [(ob, .inr (4, [.ref ahl, .int (nI nh), .ref abl, .int (nI nb), .ref asr, .ref pb, .ref atr, .int (nI nt), .ref tb, .ref mt]))]) (WN := [(ob, .inr (4, [.ref ahl, .int (nI nh), .ref abl, .int (nI nb), .ref asr, .ref pb, .ref atr, .int (nI nt), .ref tb, .ref mt]))]) (tyC := []) (isC := []) (isR := [0]) (isN := [0]) (its := []) ⟨hx, hb, hml, hown, hts⟩ (tX4_needIndex_o l dC dI b nb (by omega) (by omega)) (va_cwS 2 hts gX4_needMeeting_X4_needIndex rfl rfl rfl (by decide +kernel) ⟨Nat.le_of_ble_eq_true rfl, Nat.le_of_ble_eq_true rfl⟩) hP hD hA hS hK rfl (by decide) rfl (by decide) (by decide) rfl (by decide) rfl rfl rfl hl.1 (Nat.le_of_ble_eq_true rfl) dX4_needMeeting_13 ⟨Nat.le_of_ble_eq_true rfl, Nat.le_of_ble_eq_true rfl⟩ (fun H locs hP hD hS => ?_)
  refine lv_iload_n hx hb dX4_needMeeting_16 rfl (lv_at hl 3 rfl) ?_
  refine lv_iconst (v := (nI 2)) hx hb dX4_needMeeting_17 (by decide) ?_
  refine kmSv (As := [.int (nI pt), .int (nI 2)]) (rest := []) (WC := []) (W2 := []) (WR := [(ob, .inr (4, [.ref ahl, .int (nI nh), .ref abl, .int (nI nb), .ref asr, .ref pb, .ref atr, .int (nI nt), .ref tb, .ref mt]))]) (WN := [(ob, .inr (4, [.ref ahl, .int (nI nh), .ref abl, .int (nI nb), .ref asr, .ref pb, .ref atr, .int (nI nt), .ref tb, .ref mt]))]) (tyC := []) (isC := []) (isR := [0]) (isN := [0]) (its := []) ⟨hx, hb, hml, hown, hts⟩ (tX4_needIndex_o l dC dI pt 2 (by omega) (by omega)) (va_cwS 2 hts gX4_needMeeting_X4_needIndex rfl rfl rfl (by decide +kernel) ⟨Nat.le_of_ble_eq_true rfl, Nat.le_of_ble_eq_true rfl⟩) hP hD hA hS hK rfl (by decide) rfl (by decide) (by decide) rfl (by decide) rfl rfl rfl hl.1 (Nat.le_of_ble_eq_true rfl) dX4_needMeeting_18 ⟨Nat.le_of_ble_eq_true rfl, Nat.le_of_ble_eq_true rfl⟩ (fun H locs hP hD hS => ?_)
  exact kEv hx hb hr hlocks hP hK hD hS dX4_needMeeting_21

set_option maxHeartbeats 4000000 in
set_option maxRecDepth 100000 in
theorem tX4_shape_o (l : Launch) (dC : Nat → ClassId) (dI : Nat → Nat → Nat) (cH cJ : ClassId) (ob ahl nh abl nb asr pb atr nt tb mt : Nat) (fhl : Nat → Option Nat) (h0 ox oy ax ay pn on n : Nat) (fox foy fx fy : Nat → Int64) (hn : nh < 16) (hh : fhl nh = some h0) : MMi l yX4_shape wsX4_shape { frames := 1, cells := 0, slots := 0, locals := 20 } [.ref ob] (dC, dI) [(ob, .inr (4, [.ref ahl, .int (nI nh), .ref abl, .int (nI nb), .ref asr, .ref pb, .ref atr, .int (nI nt), .ref tb, .ref mt])), (ahl, .inl (cH, 16, .inr (.inr (.inr (.inr fhl))))), (h0, .inr (1, [.int (nI pn), .ref ox, .ref oy, .int (nI on), .ref ax, .ref ay, .int (nI n)])), (ox, .inl (cJ, 16, .inr (.inl fox))), (oy, .inl (cJ, 16, .inr (.inl foy))), (ax, .inl (cJ, 32, .inr (.inl fx))), (ay, .inl (cJ, 32, .inr (.inl fy)))] [(ob, .inr (4, [.ref ahl, .int (nI (nh + 1)), .ref abl, .int (nI nb), .ref asr, .ref pb, .ref atr, .int (nI nt), .ref tb, .ref mt])), (ahl, .inl (cH, 16, .inr (.inr (.inr (.inr fhl))))), (h0, .inr (1, [.int (nI 0), .ref ox, .ref oy, .int (nI 0), .ref ax, .ref ay, .int (nI 0)])), (ox, .inl (cJ, 16, .inr (.inl fox))), (oy, .inl (cJ, 16, .inr (.inl foy))), (ax, .inl (cJ, 32, .inr (.inl fx))), (ay, .inl (cJ, 32, .inr (.inl fy)))] [(cH, .object "SweptBoxes$Hull"), (cJ, .long)] (nI nh) := by
  intro sz
  refine kOf (cc := cX4_shape) (maxL := 1) (ret := (some .int)) (by decide) rfl (Nat.le_of_ble_eq_true rfl) ?_
  intro p e s m below meth c hx hb hr hml hts hown hlocks hB ls hl
  obtain ⟨hsz, hP, hK, hD0⟩ := hB
  subst hsz
  have hD := hD0.self (sz := s.heap.size)
  generalize hAe : va_A [(ob, .inr (4, [.ref ahl, .int (nI nh), .ref abl, .int (nI nb), .ref asr, .ref pb, .ref atr, .int (nI nt), .ref tb, .ref mt])), (ahl, .inl (cH, 16, .inr (.inr (.inr (.inr fhl))))), (h0, .inr (1, [.int (nI pn), .ref ox, .ref oy, .int (nI on), .ref ax, .ref ay, .int (nI n)])), (ox, .inl (cJ, 16, .inr (.inl fox))), (oy, .inl (cJ, 16, .inr (.inl foy))), (ax, .inl (cJ, 32, .inr (.inl fx))), (ay, .inl (cJ, 32, .inr (.inl fy)))] s.heap.size = A at hD ⊢
  have hA : ∀ q : Nat, s.heap.size ≤ q → A q := fun q h => by rw [← hAe]; exact Or.inr h
  have hS : va_S A s.heap s.heap [] := va_S.rf
  have hl : lv_has ls 1 [(0, .ref ob)] := hl
  have hi4 : ∀ w ∈ u_ws RX4 TX4 10, w ∈ wsX4_shape := by decide +kernel
  have f11 := hts (.fieldLink RX4 11 "SweptBoxes" "hulls" "[LSweptBoxes$Hull;") (by decide +kernel)
  have f51 := hts (.fieldLink RX4 51 "SweptBoxes" "hullCount" "I") (by decide +kernel)
  refine lv_aload_n hx hb dX4_shape_0 rfl (lv_at hl 0 rfl) ?_
  refine va_get (D := (dC, dI)) (ci := 4) (v := .int (nI nh)) (C := RX4) (T := TX4) (N := 10) hx hb hts hi4 hown hK hP 0 rfl rfl 1 (by decide) f51 (fun _ h9 => h9) rfl dX4_shape_1 ?_
  refine lv_bipush (v := (nI 16)) hx hb dX4_shape_4 (by decide) ?_
  refine lv_icmp_lt (tgt := 19) hx hb dX4_shape_6 (by decide) (fun c6 => ?_) (fun c6 => ?_)
  · rw [nI_ltI (by omega) (by omega)] at c6
    refine lv_aload_n hx hb dX4_shape_19 rfl (lv_at hl 0 rfl) ?_
    refine va_get (D := (dC, dI)) (ci := 4) (v := .ref ahl) (C := RX4) (T := TX4) (N := 10) hx hb hts hi4 hown hK hP 0 rfl rfl 0 (by decide) f11 (fun _ h9 => h9) rfl dX4_shape_20 ?_
    refine lv_aload_n hx hb dX4_shape_23 rfl (lv_at hl 0 rfl) ?_
    refine va_get (D := (dC, dI)) (ci := 4) (v := .int (nI nh)) (C := RX4) (T := TX4) (N := 10) hx hb hts hi4 hown hK hP 0 rfl rfl 1 (by decide) f51 (fun _ h9 => h9) rfl dX4_shape_24 ?_
    refine va_aldq hx hb hK hP 1 0 rfl rfl (vp_in_nI (show nh < 16 by omega) (by omega)) dX4_shape_27 ?_
    rw [show (nI nh).toNatClampNeg = nh from nI_clamp (show nh < 2 ^ 31 by omega)]
    rw [show (fhl nh) = some h0 from hh]
    refine kmVv (q0 := 0) (ci := 1) (As := []) (rest := []) (WC := [(h0, .inr (1, [.int (nI pn), .ref ox, .ref oy, .int (nI on), .ref ax, .ref ay, .int (nI n)])), (ox, .inl (cJ, 16, .inr (.inl fox))), (oy, .inl (cJ, 16, .inr (.inl foy))), (ax, .inl (cJ, 32, .inr (.inl fx))), (ay, .inl (cJ, 32, .inr (.inl fy)))]) (W2 := [(h0, .inr (1, [.int (nI 0), .ref ox, .ref oy, .int (nI 0), .ref ax, .ref ay, .int (nI 0)])), (ox, .inl (cJ, 16, .inr (.inl fox))), (oy, .inl (cJ, 16, .inr (.inl foy))), (ax, .inl (cJ, 32, .inr (.inl fx))), (ay, .inl (cJ, 32, .inr (.inl fy)))]) (WR := [(ob, .inr (4, [.ref ahl, .int (nI nh), .ref abl, .int (nI nb), .ref asr, .ref pb, .ref atr, .int (nI nt), .ref tb, .ref mt])), (ahl, .inl (cH, 16, .inr (.inr (.inr (.inr fhl)))))]) (WN := [(ob, .inr (4, [.ref ahl, .int (nI nh), .ref abl, .int (nI nb), .ref asr, .ref pb, .ref atr, .int (nI nt), .ref tb, .ref mt])), (ahl, .inl (cH, 16, .inr (.inr (.inr (.inr fhl))))), (h0, .inr (1, [.int (nI 0), .ref ox, .ref oy, .int (nI 0), .ref ax, .ref ay, .int (nI 0)])), (ox, .inl (cJ, 16, .inr (.inl fox))), (oy, .inl (cJ, 16, .inr (.inl foy))), (ax, .inl (cJ, 32, .inr (.inl fx))), (ay, .inl (cJ, 32, .inr (.inl fy)))]) (tyC := [(cJ, .long)]) (isC := [2, 3, 4, 5, 6]) (isR := [0, 1]) (isN := [0, 1, 2, 3, 4, 5, 6]) (its := [1]) ⟨hx, hb, hml, hown, hts⟩ (tX1_empty l dC dI cJ h0 ox oy ax ay pn on n fox foy fx fy) (cwV 0 hts gX4_shape_X1_empty rfl rfl rfl (by decide +kernel) ⟨Nat.le_of_ble_eq_true rfl, Nat.le_of_ble_eq_true rfl⟩) hP hD hA hS hK rfl (by decide) rfl (by decide) (by decide) rfl (by decide) rfl rfl rfl rfl rfl hl.1 (Nat.le_of_ble_eq_true rfl) dX4_shape_28 ⟨Nat.le_of_ble_eq_true rfl, Nat.le_of_ble_eq_true rfl⟩ (fun H locs hP hD hS => ?_)
    refine lv_aload_n hx hb dX4_shape_31 rfl (lv_at hl 0 rfl) ?_
    refine lv_dup hx hb dX4_shape_32 rfl ?_
    refine va_get (D := (dC, dI)) (ci := 4) (v := .int (nI nh)) (C := RX4) (T := TX4) (N := 10) hx hb hts hi4 hown hK hP 0 rfl rfl 1 (by decide) f51 (fun _ h9 => h9) rfl dX4_shape_33 ?_
    refine lv_iconst (v := (nI 1)) hx hb dX4_shape_36 (by decide) ?_
    refine lv_iadd hx hb dX4_shape_37 ?_
    rw [show (nI nh) + (nI 1) = (nI (nh + 1)) from nI_add nh 1]
    refine va_put (D := (dC, dI)) (ci := 4) (v := .int (nI (nh + 1))) (ty := .int) (C := RX4) (T := TX4) (N := 10) hx hb hts hi4 tyX4 tyX4_ok nmX4 hown hK hP hD hS 0 rfl rfl 1 (by decide) f51 (fun _ h9 => h9) rfl (by decide +kernel) rfl rfl (Nat.le_of_ble_eq_true rfl) dX4_shape_38 (fun H locs hP hD hS => ?_)
    have hP : va_P (dC, dI) vwCl [(ob, .inr (4, [.ref ahl, .int (nI (nh + 1)), .ref abl, .int (nI nb), .ref asr, .ref pb, .ref atr, .int (nI nt), .ref tb, .ref mt])), (ahl, .inl (cH, 16, .inr (.inr (.inr (.inr fhl))))), (h0, .inr (1, [.int (nI 0), .ref ox, .ref oy, .int (nI 0), .ref ax, .ref ay, .int (nI 0)])), (ox, .inl (cJ, 16, .inr (.inl fox))), (oy, .inl (cJ, 16, .inr (.inl foy))), (ax, .inl (cJ, 32, .inr (.inl fx))), (ay, .inl (cJ, 32, .inr (.inl fy)))] H := hP
    have hD : va_D A [(ob, .inr (4, [.ref ahl, .int (nI (nh + 1)), .ref abl, .int (nI nb), .ref asr, .ref pb, .ref atr, .int (nI nt), .ref tb, .ref mt])), (ahl, .inl (cH, 16, .inr (.inr (.inr (.inr fhl))))), (h0, .inr (1, [.int (nI 0), .ref ox, .ref oy, .int (nI 0), .ref ax, .ref ay, .int (nI 0)])), (ox, .inl (cJ, 16, .inr (.inl fox))), (oy, .inl (cJ, 16, .inr (.inl foy))), (ax, .inl (cJ, 32, .inr (.inl fx))), (ay, .inl (cJ, 32, .inr (.inl fy)))] := hD
    refine lv_aload_n hx hb dX4_shape_41 rfl (lv_at hl 0 rfl) ?_
    refine va_get (D := (dC, dI)) (ci := 4) (v := .int (nI (nh + 1))) (C := RX4) (T := TX4) (N := 10) hx hb hts hi4 hown hK hP 0 rfl rfl 1 (by decide) f51 (fun _ h9 => h9) rfl dX4_shape_42 ?_
    refine lv_iconst (v := (nI 1)) hx hb dX4_shape_45 (by decide) ?_
    refine lv_isub hx hb dX4_shape_46 ?_
    rw [show (nI (nh + 1)) - (nI 1) = (nI (((nh + 1)) - 1)) from pk_sub (show 1 ≤ (nh + 1) by omega)]
    exact kEi hx hb hr hlocks hP hK hD hS dX4_shape_47 rfl
  · rw [nI_ltI (by omega) (by omega), Nat.not_lt] at c6
    exfalso; omega

set_option maxHeartbeats 4000000 in
set_option maxRecDepth 100000 in
theorem tX4_point_t (l : Launch) (dC : Nat → ClassId) (dI : Nat → Nat → Nat) (cH cJ : ClassId) (ob ahl nh abl nb asr pb atr nt tb mt : Nat) (fhl : Nat → Option Nat) (s_ : Nat) (h0 ox oy ax ay pn on n : Nat) (fox foy fx fy : Nat → Int64) (x y : Int64) (hs : s_ < nh) (hn : nh ≤ 16) (hh : fhl s_ = some h0) (hp : pn < 16) (hn2 : n ≤ 32) (ho : on < 16) (hok : (-10000 ≤ x ∧ x ≤ 10000) ∧ (-10000 ≤ y ∧ y ≤ 10000)) (hq : pHolds fx fy n x y = true) : MMi l yX4_point wsX4_point { frames := 6, cells := 0, slots := 0, locals := 152 } [.ref ob, .int (nI s_), .long x, .long y] (dC, dI) [(ob, .inr (4, [.ref ahl, .int (nI nh), .ref abl, .int (nI nb), .ref asr, .ref pb, .ref atr, .int (nI nt), .ref tb, .ref mt])), (ahl, .inl (cH, 16, .inr (.inr (.inr (.inr fhl))))), (h0, .inr (1, [.int (nI pn), .ref ox, .ref oy, .int (nI on), .ref ax, .ref ay, .int (nI n)])), (ox, .inl (cJ, 16, .inr (.inl fox))), (oy, .inl (cJ, 16, .inr (.inl foy))), (ax, .inl (cJ, 32, .inr (.inl fx))), (ay, .inl (cJ, 32, .inr (.inl fy)))] [(ob, .inr (4, [.ref ahl, .int (nI nh), .ref abl, .int (nI nb), .ref asr, .ref pb, .ref atr, .int (nI nt), .ref tb, .ref mt])), (ahl, .inl (cH, 16, .inr (.inr (.inr (.inr fhl))))), (h0, .inr (1, [.int (nI (pn + 1)), .ref ox, .ref oy, .int (nI on), .ref ax, .ref ay, .int (nI n)])), (ox, .inl (cJ, 16, .inr (.inl fox))), (oy, .inl (cJ, 16, .inr (.inl foy))), (ax, .inl (cJ, 32, .inr (.inl fx))), (ay, .inl (cJ, 32, .inr (.inl fy)))] [(cH, .object "SweptBoxes$Hull"), (cJ, .long)] (bI false) := by
  intro sz
  refine kOf (cc := cX4_point) (maxL := 7) (ret := (some .boolean)) (by decide) rfl (Nat.le_of_ble_eq_true rfl) ?_
  intro p e s m below meth c hx hb hr hml hts hown hlocks hB ls hl
  obtain ⟨hsz, hP, hK, hD0⟩ := hB
  subst hsz
  have hD := hD0.self (sz := s.heap.size)
  generalize hAe : va_A [(ob, .inr (4, [.ref ahl, .int (nI nh), .ref abl, .int (nI nb), .ref asr, .ref pb, .ref atr, .int (nI nt), .ref tb, .ref mt])), (ahl, .inl (cH, 16, .inr (.inr (.inr (.inr fhl))))), (h0, .inr (1, [.int (nI pn), .ref ox, .ref oy, .int (nI on), .ref ax, .ref ay, .int (nI n)])), (ox, .inl (cJ, 16, .inr (.inl fox))), (oy, .inl (cJ, 16, .inr (.inl foy))), (ax, .inl (cJ, 32, .inr (.inl fx))), (ay, .inl (cJ, 32, .inr (.inl fy)))] s.heap.size = A at hD ⊢
  have hA : ∀ q : Nat, s.heap.size ≤ q → A q := fun q h => by rw [← hAe]; exact Or.inr h
  have hS : va_S A s.heap s.heap [] := va_S.rf
  have hl : lv_has ls 7 [(0, .ref ob), (1, .int (nI s_)), (2, .long x), (4, .long y)] := hl
  have hi1 : ∀ w ∈ u_ws RX1 TX1 7, w ∈ wsX4_point := by decide +kernel
  have hi4 : ∀ w ∈ u_ws RX4 TX4 10, w ∈ wsX4_point := by decide +kernel
  have f11 := hts (.fieldLink RX4 11 "SweptBoxes" "hulls" "[LSweptBoxes$Hull;") (by decide +kernel)
  have f51 := hts (.fieldLink RX4 51 "SweptBoxes" "hullCount" "I") (by decide +kernel)
  have f69 := hts (.fieldLink RX4 69 "SweptBoxes$Hull" "pointCount" "I") (by decide +kernel)
  refine lv_iload_n hx hb dX4_point_0 rfl (lv_at hl 1 rfl) ?_
  refine lv_aload_n hx hb dX4_point_1 rfl (lv_at hl 0 rfl) ?_
  refine va_get (D := (dC, dI)) (ci := 4) (v := .int (nI nh)) (C := RX4) (T := TX4) (N := 10) hx hb hts hi4 hown hK hP 0 rfl rfl 1 (by decide) f51 (fun _ h9 => h9) rfl dX4_point_2 ?_
  refine kmSv (As := [.int (nI s_), .int (nI nh)]) (rest := []) (WC := []) (W2 := []) (WR := [(ob, .inr (4, [.ref ahl, .int (nI nh), .ref abl, .int (nI nb), .ref asr, .ref pb, .ref atr, .int (nI nt), .ref tb, .ref mt])), (ahl, .inl (cH, 16, .inr (.inr (.inr (.inr fhl))))), (h0, .inr (1, [.int (nI pn), .ref ox, .ref oy, .int (nI on), .ref ax, .ref ay, .int (nI n)])), (ox, .inl (cJ, 16, .inr (.inl fox))), (oy, .inl (cJ, 16, .inr (.inl foy))), (ax, .inl (cJ, 32, .inr (.inl fx))), (ay, .inl (cJ, 32, .inr (.inl fy)))]) (WN := [(ob, .inr (4, [.ref ahl, .int (nI nh), .ref abl, .int (nI nb), .ref asr, .ref pb, .ref atr, .int (nI nt), .ref tb, .ref mt])), (ahl, .inl (cH, 16, .inr (.inr (.inr (.inr fhl))))), (h0, .inr (1, [.int (nI pn), .ref ox, .ref oy, .int (nI on), .ref ax, .ref ay, .int (nI n)])), (ox, .inl (cJ, 16, .inr (.inl fox))), (oy, .inl (cJ, 16, .inr (.inl foy))), (ax, .inl (cJ, 32, .inr (.inl fx))), (ay, .inl (cJ, 32, .inr (.inl fy)))]) (tyC := []) (isC := []) (isR := [0, 1, 2, 3, 4, 5, 6]) (isN := [0, 1, 2, 3, 4, 5, 6]) (its := []) ⟨hx, hb, hml, hown, hts⟩ (tX4_needIndex_o l dC dI s_ nh (by omega) (by omega)) (va_cwS 2 hts gX4_point_X4_needIndex rfl rfl rfl (by decide +kernel) ⟨Nat.le_of_ble_eq_true rfl, Nat.le_of_ble_eq_true rfl⟩) hP hD hA hS hK rfl (by decide) rfl (by decide) (by decide) rfl (by decide) rfl rfl rfl hl.1 (Nat.le_of_ble_eq_true rfl) dX4_point_5 ⟨Nat.le_of_ble_eq_true rfl, Nat.le_of_ble_eq_true rfl⟩ (fun H locs hP hD hS => ?_)
  refine lv_aload_n hx hb dX4_point_8 rfl (lv_at hl 0 rfl) ?_
  refine va_get (D := (dC, dI)) (ci := 4) (v := .ref ahl) (C := RX4) (T := TX4) (N := 10) hx hb hts hi4 hown hK hP 0 rfl rfl 0 (by decide) f11 (fun _ h9 => h9) rfl dX4_point_9 ?_
  refine lv_iload_n hx hb dX4_point_12 rfl (lv_at hl 1 rfl) ?_
  refine va_aldq hx hb hK hP 1 0 rfl rfl (vp_in_nI (show s_ < 16 by omega) (by omega)) dX4_point_13 ?_
  rw [show (nI s_).toNatClampNeg = s_ from nI_clamp (show s_ < 2 ^ 31 by omega)]
  rw [show (fhl s_) = some h0 from hh]
  refine lv_astore (lv' := [(6, .ref h0), (0, .ref ob), (1, .int (nI s_)), (2, .long x), (4, .long y)]) hx hb dX4_point_14 hl (by decide) rfl (fun ls hl => ?_)
  refine lv_aload hx hb dX4_point_16 (lv_at hl 0 rfl) ?_
  refine va_get (D := (dC, dI)) (ci := 1) (v := .int (nI pn)) (C := RX1) (T := TX1) (N := 7) hx hb hts hi1 hown hK hP 2 rfl rfl 0 (by decide) f69 (fun _ h9 => h9) rfl dX4_point_18 ?_
  refine lv_bipush (v := (nI 16)) hx hb dX4_point_21 (by decide) ?_
  refine lv_icmp_lt (tgt := 36) hx hb dX4_point_23 (by decide) (fun c23 => ?_) (fun c23 => ?_)
  · rw [nI_ltI (by omega) (by omega)] at c23
    refine lv_lload_n hx hb dX4_point_36 rfl (lv_at hl 3 rfl) ?_
    refine lv_lload hx hb dX4_point_37 (lv_at hl 4 rfl) ?_
    refine kmSv (As := [.long x, .long y]) (rest := []) (WC := []) (W2 := []) (WR := [(ob, .inr (4, [.ref ahl, .int (nI nh), .ref abl, .int (nI nb), .ref asr, .ref pb, .ref atr, .int (nI nt), .ref tb, .ref mt])), (ahl, .inl (cH, 16, .inr (.inr (.inr (.inr fhl))))), (h0, .inr (1, [.int (nI pn), .ref ox, .ref oy, .int (nI on), .ref ax, .ref ay, .int (nI n)])), (ox, .inl (cJ, 16, .inr (.inl fox))), (oy, .inl (cJ, 16, .inr (.inl foy))), (ax, .inl (cJ, 32, .inr (.inl fx))), (ay, .inl (cJ, 32, .inr (.inl fy)))]) (WN := [(ob, .inr (4, [.ref ahl, .int (nI nh), .ref abl, .int (nI nb), .ref asr, .ref pb, .ref atr, .int (nI nt), .ref tb, .ref mt])), (ahl, .inl (cH, 16, .inr (.inr (.inr (.inr fhl))))), (h0, .inr (1, [.int (nI pn), .ref ox, .ref oy, .int (nI on), .ref ax, .ref ay, .int (nI n)])), (ox, .inl (cJ, 16, .inr (.inl fox))), (oy, .inl (cJ, 16, .inr (.inl foy))), (ax, .inl (cJ, 32, .inr (.inl fx))), (ay, .inl (cJ, 32, .inr (.inl fy)))]) (tyC := []) (isC := []) (isR := [0, 1, 2, 3, 4, 5, 6]) (isN := [0, 1, 2, 3, 4, 5, 6]) (its := []) ⟨hx, hb, hml, hown, hts⟩ (tX4_needInRange_o l dC dI x y hok) (va_cwS 2 hts gX4_point_X4_needInRange rfl rfl rfl (by decide +kernel) ⟨Nat.le_of_ble_eq_true rfl, Nat.le_of_ble_eq_true rfl⟩) hP hD hA hS hK rfl (by decide) rfl (by decide) (by decide) rfl (by decide) rfl rfl rfl hl.1 (Nat.le_of_ble_eq_true rfl) dX4_point_39 ⟨Nat.le_of_ble_eq_true rfl, Nat.le_of_ble_eq_true rfl⟩ (fun H locs hP hD hS => ?_)
    refine lv_aload hx hb dX4_point_42 (lv_at hl 0 rfl) ?_
    refine lv_lload_n hx hb dX4_point_44 rfl (lv_at hl 3 rfl) ?_
    refine lv_lload hx hb dX4_point_45 (lv_at hl 4 rfl) ?_
    refine kmVi (q0 := 0) (ci := 1) (As := [.long x, .long y]) (rest := []) (WC := [(h0, .inr (1, [.int (nI pn), .ref ox, .ref oy, .int (nI on), .ref ax, .ref ay, .int (nI n)])), (ox, .inl (cJ, 16, .inr (.inl fox))), (oy, .inl (cJ, 16, .inr (.inl foy))), (ax, .inl (cJ, 32, .inr (.inl fx))), (ay, .inl (cJ, 32, .inr (.inl fy)))]) (W2 := [(h0, .inr (1, [.int (nI (pn + 1)), .ref ox, .ref oy, .int (nI on), .ref ax, .ref ay, .int (nI n)])), (ox, .inl (cJ, 16, .inr (.inl fox))), (oy, .inl (cJ, 16, .inr (.inl foy))), (ax, .inl (cJ, 32, .inr (.inl fx))), (ay, .inl (cJ, 32, .inr (.inl fy)))]) (WR := [(ob, .inr (4, [.ref ahl, .int (nI nh), .ref abl, .int (nI nb), .ref asr, .ref pb, .ref atr, .int (nI nt), .ref tb, .ref mt])), (ahl, .inl (cH, 16, .inr (.inr (.inr (.inr fhl)))))]) (WN := [(ob, .inr (4, [.ref ahl, .int (nI nh), .ref abl, .int (nI nb), .ref asr, .ref pb, .ref atr, .int (nI nt), .ref tb, .ref mt])), (ahl, .inl (cH, 16, .inr (.inr (.inr (.inr fhl))))), (h0, .inr (1, [.int (nI (pn + 1)), .ref ox, .ref oy, .int (nI on), .ref ax, .ref ay, .int (nI n)])), (ox, .inl (cJ, 16, .inr (.inl fox))), (oy, .inl (cJ, 16, .inr (.inl foy))), (ax, .inl (cJ, 32, .inr (.inl fx))), (ay, .inl (cJ, 32, .inr (.inl fy)))]) (tyC := [(cJ, .long)]) (isC := [2, 3, 4, 5, 6]) (isR := [0, 1]) (isN := [0, 1, 2, 3, 4, 5, 6]) (its := [1]) ⟨hx, hb, hml, hown, hts⟩ (tX1_take_t l dC dI cJ h0 ox oy ax ay pn on n fox foy fx fy x y hn2 ho (by omega) hq) (cwV 2 hts gX4_point_X1_take rfl rfl rfl (by decide +kernel) ⟨Nat.le_of_ble_eq_true rfl, Nat.le_of_ble_eq_true rfl⟩) hP hD hA hS hK rfl (by decide) rfl (by decide) (by decide) rfl (by decide) rfl rfl rfl rfl rfl hl.1 (Nat.le_of_ble_eq_true rfl) dX4_point_47 ⟨Nat.le_of_ble_eq_true rfl, Nat.le_of_ble_eq_true rfl⟩ (fun H locs hP hD hS => ?_)
    exact kEz hx hb hr hlocks hP hK hD hS dX4_point_50 rfl
  · rw [nI_ltI (by omega) (by omega), Nat.not_lt] at c23
    exfalso; omega

set_option maxHeartbeats 4000000 in
set_option maxRecDepth 100000 in
theorem tX4_point_f (l : Launch) (dC : Nat → ClassId) (dI : Nat → Nat → Nat) (cH cJ : ClassId) (ob ahl nh abl nb asr pb atr nt tb mt : Nat) (fhl : Nat → Option Nat) (s_ : Nat) (h0 ox oy ax ay pn on n : Nat) (fox foy fx fy : Nat → Int64) (x y : Int64) (hs : s_ < nh) (hn : nh ≤ 16) (hh : fhl s_ = some h0) (hp : pn < 16) (hn2 : n ≤ 32) (ho : on < 16) (hok : (-10000 ≤ x ∧ x ≤ 10000) ∧ (-10000 ≤ y ∧ y ≤ 10000)) (hq : pHolds fx fy n x y = false) : MMi l yX4_point wsX4_point { frames := 6, cells := 0, slots := 0, locals := 152 } [.ref ob, .int (nI s_), .long x, .long y] (dC, dI) [(ob, .inr (4, [.ref ahl, .int (nI nh), .ref abl, .int (nI nb), .ref asr, .ref pb, .ref atr, .int (nI nt), .ref tb, .ref mt])), (ahl, .inl (cH, 16, .inr (.inr (.inr (.inr fhl))))), (h0, .inr (1, [.int (nI pn), .ref ox, .ref oy, .int (nI on), .ref ax, .ref ay, .int (nI n)])), (ox, .inl (cJ, 16, .inr (.inl fox))), (oy, .inl (cJ, 16, .inr (.inl foy))), (ax, .inl (cJ, 32, .inr (.inl fx))), (ay, .inl (cJ, 32, .inr (.inl fy)))] [(ob, .inr (4, [.ref ahl, .int (nI nh), .ref abl, .int (nI nb), .ref asr, .ref pb, .ref atr, .int (nI nt), .ref tb, .ref mt])), (ahl, .inl (cH, 16, .inr (.inr (.inr (.inr fhl))))), (h0, .inr (1, [.int (nI (pn + 1)), .ref ox, .ref oy, .int (nI (on + 1)), .ref ax, .ref ay, .int (nI (if 1 < on + 1 then (pCo (pInsX on fox foy x y) (pInsY on fox foy x y) fx fy (on + 1)).2.2 - 1 else (pCo (pInsX on fox foy x y) (pInsY on fox foy x y) fx fy (on + 1)).2.2))])), (ox, .inl (cJ, 16, .inr (.inl (pInsX on fox foy x y)))), (oy, .inl (cJ, 16, .inr (.inl (pInsY on fox foy x y)))), (ax, .inl (cJ, 32, .inr (.inl ((pCo (pInsX on fox foy x y) (pInsY on fox foy x y) fx fy (on + 1)).1)))), (ay, .inl (cJ, 32, .inr (.inl ((pCo (pInsX on fox foy x y) (pInsY on fox foy x y) fx fy (on + 1)).2.1))))] [(cH, .object "SweptBoxes$Hull"), (cJ, .long)] (bI true) := by
  intro sz
  refine kOf (cc := cX4_point) (maxL := 7) (ret := (some .boolean)) (by decide) rfl (Nat.le_of_ble_eq_true rfl) ?_
  intro p e s m below meth c hx hb hr hml hts hown hlocks hB ls hl
  obtain ⟨hsz, hP, hK, hD0⟩ := hB
  subst hsz
  have hD := hD0.self (sz := s.heap.size)
  generalize hAe : va_A [(ob, .inr (4, [.ref ahl, .int (nI nh), .ref abl, .int (nI nb), .ref asr, .ref pb, .ref atr, .int (nI nt), .ref tb, .ref mt])), (ahl, .inl (cH, 16, .inr (.inr (.inr (.inr fhl))))), (h0, .inr (1, [.int (nI pn), .ref ox, .ref oy, .int (nI on), .ref ax, .ref ay, .int (nI n)])), (ox, .inl (cJ, 16, .inr (.inl fox))), (oy, .inl (cJ, 16, .inr (.inl foy))), (ax, .inl (cJ, 32, .inr (.inl fx))), (ay, .inl (cJ, 32, .inr (.inl fy)))] s.heap.size = A at hD ⊢
  have hA : ∀ q : Nat, s.heap.size ≤ q → A q := fun q h => by rw [← hAe]; exact Or.inr h
  have hS : va_S A s.heap s.heap [] := va_S.rf
  have hl : lv_has ls 7 [(0, .ref ob), (1, .int (nI s_)), (2, .long x), (4, .long y)] := hl
  have hi1 : ∀ w ∈ u_ws RX1 TX1 7, w ∈ wsX4_point := by decide +kernel
  have hi4 : ∀ w ∈ u_ws RX4 TX4 10, w ∈ wsX4_point := by decide +kernel
  have f11 := hts (.fieldLink RX4 11 "SweptBoxes" "hulls" "[LSweptBoxes$Hull;") (by decide +kernel)
  have f51 := hts (.fieldLink RX4 51 "SweptBoxes" "hullCount" "I") (by decide +kernel)
  have f69 := hts (.fieldLink RX4 69 "SweptBoxes$Hull" "pointCount" "I") (by decide +kernel)
  refine lv_iload_n hx hb dX4_point_0 rfl (lv_at hl 1 rfl) ?_
  refine lv_aload_n hx hb dX4_point_1 rfl (lv_at hl 0 rfl) ?_
  refine va_get (D := (dC, dI)) (ci := 4) (v := .int (nI nh)) (C := RX4) (T := TX4) (N := 10) hx hb hts hi4 hown hK hP 0 rfl rfl 1 (by decide) f51 (fun _ h9 => h9) rfl dX4_point_2 ?_
  refine kmSv (As := [.int (nI s_), .int (nI nh)]) (rest := []) (WC := []) (W2 := []) (WR := [(ob, .inr (4, [.ref ahl, .int (nI nh), .ref abl, .int (nI nb), .ref asr, .ref pb, .ref atr, .int (nI nt), .ref tb, .ref mt])), (ahl, .inl (cH, 16, .inr (.inr (.inr (.inr fhl))))), (h0, .inr (1, [.int (nI pn), .ref ox, .ref oy, .int (nI on), .ref ax, .ref ay, .int (nI n)])), (ox, .inl (cJ, 16, .inr (.inl fox))), (oy, .inl (cJ, 16, .inr (.inl foy))), (ax, .inl (cJ, 32, .inr (.inl fx))), (ay, .inl (cJ, 32, .inr (.inl fy)))]) (WN := [(ob, .inr (4, [.ref ahl, .int (nI nh), .ref abl, .int (nI nb), .ref asr, .ref pb, .ref atr, .int (nI nt), .ref tb, .ref mt])), (ahl, .inl (cH, 16, .inr (.inr (.inr (.inr fhl))))), (h0, .inr (1, [.int (nI pn), .ref ox, .ref oy, .int (nI on), .ref ax, .ref ay, .int (nI n)])), (ox, .inl (cJ, 16, .inr (.inl fox))), (oy, .inl (cJ, 16, .inr (.inl foy))), (ax, .inl (cJ, 32, .inr (.inl fx))), (ay, .inl (cJ, 32, .inr (.inl fy)))]) (tyC := []) (isC := []) (isR := [0, 1, 2, 3, 4, 5, 6]) (isN := [0, 1, 2, 3, 4, 5, 6]) (its := []) ⟨hx, hb, hml, hown, hts⟩ (tX4_needIndex_o l dC dI s_ nh (by omega) (by omega)) (va_cwS 2 hts gX4_point_X4_needIndex rfl rfl rfl (by decide +kernel) ⟨Nat.le_of_ble_eq_true rfl, Nat.le_of_ble_eq_true rfl⟩) hP hD hA hS hK rfl (by decide) rfl (by decide) (by decide) rfl (by decide) rfl rfl rfl hl.1 (Nat.le_of_ble_eq_true rfl) dX4_point_5 ⟨Nat.le_of_ble_eq_true rfl, Nat.le_of_ble_eq_true rfl⟩ (fun H locs hP hD hS => ?_)
  refine lv_aload_n hx hb dX4_point_8 rfl (lv_at hl 0 rfl) ?_
  refine va_get (D := (dC, dI)) (ci := 4) (v := .ref ahl) (C := RX4) (T := TX4) (N := 10) hx hb hts hi4 hown hK hP 0 rfl rfl 0 (by decide) f11 (fun _ h9 => h9) rfl dX4_point_9 ?_
  refine lv_iload_n hx hb dX4_point_12 rfl (lv_at hl 1 rfl) ?_
  refine va_aldq hx hb hK hP 1 0 rfl rfl (vp_in_nI (show s_ < 16 by omega) (by omega)) dX4_point_13 ?_
  rw [show (nI s_).toNatClampNeg = s_ from nI_clamp (show s_ < 2 ^ 31 by omega)]
  rw [show (fhl s_) = some h0 from hh]
  refine lv_astore (lv' := [(6, .ref h0), (0, .ref ob), (1, .int (nI s_)), (2, .long x), (4, .long y)]) hx hb dX4_point_14 hl (by decide) rfl (fun ls hl => ?_)
  refine lv_aload hx hb dX4_point_16 (lv_at hl 0 rfl) ?_
  refine va_get (D := (dC, dI)) (ci := 1) (v := .int (nI pn)) (C := RX1) (T := TX1) (N := 7) hx hb hts hi1 hown hK hP 2 rfl rfl 0 (by decide) f69 (fun _ h9 => h9) rfl dX4_point_18 ?_
  refine lv_bipush (v := (nI 16)) hx hb dX4_point_21 (by decide) ?_
  refine lv_icmp_lt (tgt := 36) hx hb dX4_point_23 (by decide) (fun c23 => ?_) (fun c23 => ?_)
  · rw [nI_ltI (by omega) (by omega)] at c23
    refine lv_lload_n hx hb dX4_point_36 rfl (lv_at hl 3 rfl) ?_
    refine lv_lload hx hb dX4_point_37 (lv_at hl 4 rfl) ?_
    refine kmSv (As := [.long x, .long y]) (rest := []) (WC := []) (W2 := []) (WR := [(ob, .inr (4, [.ref ahl, .int (nI nh), .ref abl, .int (nI nb), .ref asr, .ref pb, .ref atr, .int (nI nt), .ref tb, .ref mt])), (ahl, .inl (cH, 16, .inr (.inr (.inr (.inr fhl))))), (h0, .inr (1, [.int (nI pn), .ref ox, .ref oy, .int (nI on), .ref ax, .ref ay, .int (nI n)])), (ox, .inl (cJ, 16, .inr (.inl fox))), (oy, .inl (cJ, 16, .inr (.inl foy))), (ax, .inl (cJ, 32, .inr (.inl fx))), (ay, .inl (cJ, 32, .inr (.inl fy)))]) (WN := [(ob, .inr (4, [.ref ahl, .int (nI nh), .ref abl, .int (nI nb), .ref asr, .ref pb, .ref atr, .int (nI nt), .ref tb, .ref mt])), (ahl, .inl (cH, 16, .inr (.inr (.inr (.inr fhl))))), (h0, .inr (1, [.int (nI pn), .ref ox, .ref oy, .int (nI on), .ref ax, .ref ay, .int (nI n)])), (ox, .inl (cJ, 16, .inr (.inl fox))), (oy, .inl (cJ, 16, .inr (.inl foy))), (ax, .inl (cJ, 32, .inr (.inl fx))), (ay, .inl (cJ, 32, .inr (.inl fy)))]) (tyC := []) (isC := []) (isR := [0, 1, 2, 3, 4, 5, 6]) (isN := [0, 1, 2, 3, 4, 5, 6]) (its := []) ⟨hx, hb, hml, hown, hts⟩ (tX4_needInRange_o l dC dI x y hok) (va_cwS 2 hts gX4_point_X4_needInRange rfl rfl rfl (by decide +kernel) ⟨Nat.le_of_ble_eq_true rfl, Nat.le_of_ble_eq_true rfl⟩) hP hD hA hS hK rfl (by decide) rfl (by decide) (by decide) rfl (by decide) rfl rfl rfl hl.1 (Nat.le_of_ble_eq_true rfl) dX4_point_39 ⟨Nat.le_of_ble_eq_true rfl, Nat.le_of_ble_eq_true rfl⟩ (fun H locs hP hD hS => ?_)
    refine lv_aload hx hb dX4_point_42 (lv_at hl 0 rfl) ?_
    refine lv_lload_n hx hb dX4_point_44 rfl (lv_at hl 3 rfl) ?_
    refine lv_lload hx hb dX4_point_45 (lv_at hl 4 rfl) ?_
    refine kmVi (q0 := 0) (ci := 1) (As := [.long x, .long y]) (rest := []) (WC := [(h0, .inr (1, [.int (nI pn), .ref ox, .ref oy, .int (nI on), .ref ax, .ref ay, .int (nI n)])), (ox, .inl (cJ, 16, .inr (.inl fox))), (oy, .inl (cJ, 16, .inr (.inl foy))), (ax, .inl (cJ, 32, .inr (.inl fx))), (ay, .inl (cJ, 32, .inr (.inl fy)))]) (W2 := [(h0, .inr (1, [.int (nI (pn + 1)), .ref ox, .ref oy, .int (nI (on + 1)), .ref ax, .ref ay, .int (nI (if 1 < on + 1 then (pCo (pInsX on fox foy x y) (pInsY on fox foy x y) fx fy (on + 1)).2.2 - 1 else (pCo (pInsX on fox foy x y) (pInsY on fox foy x y) fx fy (on + 1)).2.2))])), (ox, .inl (cJ, 16, .inr (.inl (pInsX on fox foy x y)))), (oy, .inl (cJ, 16, .inr (.inl (pInsY on fox foy x y)))), (ax, .inl (cJ, 32, .inr (.inl ((pCo (pInsX on fox foy x y) (pInsY on fox foy x y) fx fy (on + 1)).1)))), (ay, .inl (cJ, 32, .inr (.inl ((pCo (pInsX on fox foy x y) (pInsY on fox foy x y) fx fy (on + 1)).2.1))))]) (WR := [(ob, .inr (4, [.ref ahl, .int (nI nh), .ref abl, .int (nI nb), .ref asr, .ref pb, .ref atr, .int (nI nt), .ref tb, .ref mt])), (ahl, .inl (cH, 16, .inr (.inr (.inr (.inr fhl)))))]) (WN := [(ob, .inr (4, [.ref ahl, .int (nI nh), .ref abl, .int (nI nb), .ref asr, .ref pb, .ref atr, .int (nI nt), .ref tb, .ref mt])), (ahl, .inl (cH, 16, .inr (.inr (.inr (.inr fhl))))), (h0, .inr (1, [.int (nI (pn + 1)), .ref ox, .ref oy, .int (nI (on + 1)), .ref ax, .ref ay, .int (nI (if 1 < on + 1 then (pCo (pInsX on fox foy x y) (pInsY on fox foy x y) fx fy (on + 1)).2.2 - 1 else (pCo (pInsX on fox foy x y) (pInsY on fox foy x y) fx fy (on + 1)).2.2))])), (ox, .inl (cJ, 16, .inr (.inl (pInsX on fox foy x y)))), (oy, .inl (cJ, 16, .inr (.inl (pInsY on fox foy x y)))), (ax, .inl (cJ, 32, .inr (.inl ((pCo (pInsX on fox foy x y) (pInsY on fox foy x y) fx fy (on + 1)).1)))), (ay, .inl (cJ, 32, .inr (.inl ((pCo (pInsX on fox foy x y) (pInsY on fox foy x y) fx fy (on + 1)).2.1))))]) (tyC := [(cJ, .long)]) (isC := [2, 3, 4, 5, 6]) (isR := [0, 1]) (isN := [0, 1, 2, 3, 4, 5, 6]) (its := [1]) ⟨hx, hb, hml, hown, hts⟩ (tX1_take_f l dC dI cJ h0 ox oy ax ay pn on n fox foy fx fy x y hn2 ho (by omega) hq) (cwV 2 hts gX4_point_X1_take rfl rfl rfl (by decide +kernel) ⟨Nat.le_of_ble_eq_true rfl, Nat.le_of_ble_eq_true rfl⟩) hP hD hA hS hK rfl (by decide) rfl (by decide) (by decide) rfl (by decide) rfl rfl rfl rfl rfl hl.1 (Nat.le_of_ble_eq_true rfl) dX4_point_47 ⟨Nat.le_of_ble_eq_true rfl, Nat.le_of_ble_eq_true rfl⟩ (fun H locs hP hD hS => ?_)
    exact kEz hx hb hr hlocks hP hK hD hS dX4_point_50 rfl
  · rw [nI_ltI (by omega) (by omega), Nat.not_lt] at c23
    exfalso; omega

set_option maxHeartbeats 4000000 in
set_option maxRecDepth 100000 in
theorem tX4_corners_o (l : Launch) (dC : Nat → ClassId) (dI : Nat → Nat → Nat) (cH cJ : ClassId) (ob ahl nh abl nb asr pb atr nt tb mt : Nat) (fhl : Nat → Option Nat) (s_ : Nat) (h0 ox oy ax ay pn on n : Nat) (fox foy fx fy : Nat → Int64) (hs : s_ < nh) (hn : nh ≤ 16) (hh : fhl s_ = some h0) : MMi l yX4_corners wsX4_corners { frames := 1, cells := 0, slots := 0, locals := 21 } [.ref ob, .int (nI s_)] (dC, dI) [(ob, .inr (4, [.ref ahl, .int (nI nh), .ref abl, .int (nI nb), .ref asr, .ref pb, .ref atr, .int (nI nt), .ref tb, .ref mt])), (ahl, .inl (cH, 16, .inr (.inr (.inr (.inr fhl))))), (h0, .inr (1, [.int (nI pn), .ref ox, .ref oy, .int (nI on), .ref ax, .ref ay, .int (nI n)])), (ox, .inl (cJ, 16, .inr (.inl fox))), (oy, .inl (cJ, 16, .inr (.inl foy))), (ax, .inl (cJ, 32, .inr (.inl fx))), (ay, .inl (cJ, 32, .inr (.inl fy)))] [(ob, .inr (4, [.ref ahl, .int (nI nh), .ref abl, .int (nI nb), .ref asr, .ref pb, .ref atr, .int (nI nt), .ref tb, .ref mt])), (ahl, .inl (cH, 16, .inr (.inr (.inr (.inr fhl))))), (h0, .inr (1, [.int (nI pn), .ref ox, .ref oy, .int (nI on), .ref ax, .ref ay, .int (nI n)])), (ox, .inl (cJ, 16, .inr (.inl fox))), (oy, .inl (cJ, 16, .inr (.inl foy))), (ax, .inl (cJ, 32, .inr (.inl fx))), (ay, .inl (cJ, 32, .inr (.inl fy)))] [(cH, .object "SweptBoxes$Hull"), (cJ, .long)] (nI n) := by
  intro sz
  refine kOf (cc := cX4_corners) (maxL := 2) (ret := (some .int)) (by decide) rfl (Nat.le_of_ble_eq_true rfl) ?_
  intro p e s m below meth c hx hb hr hml hts hown hlocks hB ls hl
  obtain ⟨hsz, hP, hK, hD0⟩ := hB
  subst hsz
  have hD := hD0.self (sz := s.heap.size)
  generalize hAe : va_A [(ob, .inr (4, [.ref ahl, .int (nI nh), .ref abl, .int (nI nb), .ref asr, .ref pb, .ref atr, .int (nI nt), .ref tb, .ref mt])), (ahl, .inl (cH, 16, .inr (.inr (.inr (.inr fhl))))), (h0, .inr (1, [.int (nI pn), .ref ox, .ref oy, .int (nI on), .ref ax, .ref ay, .int (nI n)])), (ox, .inl (cJ, 16, .inr (.inl fox))), (oy, .inl (cJ, 16, .inr (.inl foy))), (ax, .inl (cJ, 32, .inr (.inl fx))), (ay, .inl (cJ, 32, .inr (.inl fy)))] s.heap.size = A at hD ⊢
  have hA : ∀ q : Nat, s.heap.size ≤ q → A q := fun q h => by rw [← hAe]; exact Or.inr h
  have hS : va_S A s.heap s.heap [] := va_S.rf
  have hl : lv_has ls 2 [(0, .ref ob), (1, .int (nI s_))] := hl
  have hi1 : ∀ w ∈ u_ws RX1 TX1 7, w ∈ wsX4_corners := by decide +kernel
  have hi4 : ∀ w ∈ u_ws RX4 TX4 10, w ∈ wsX4_corners := by decide +kernel
  have f11 := hts (.fieldLink RX4 11 "SweptBoxes" "hulls" "[LSweptBoxes$Hull;") (by decide +kernel)
  have f51 := hts (.fieldLink RX4 51 "SweptBoxes" "hullCount" "I") (by decide +kernel)
  have f82 := hts (.fieldLink RX4 82 "SweptBoxes$Hull" "size" "I") (by decide +kernel)
  refine lv_iload_n hx hb dX4_corners_0 rfl (lv_at hl 1 rfl) ?_
  refine lv_aload_n hx hb dX4_corners_1 rfl (lv_at hl 0 rfl) ?_
  refine va_get (D := (dC, dI)) (ci := 4) (v := .int (nI nh)) (C := RX4) (T := TX4) (N := 10) hx hb hts hi4 hown hK hP 0 rfl rfl 1 (by decide) f51 (fun _ h9 => h9) rfl dX4_corners_2 ?_
  refine kmSv (As := [.int (nI s_), .int (nI nh)]) (rest := []) (WC := []) (W2 := []) (WR := [(ob, .inr (4, [.ref ahl, .int (nI nh), .ref abl, .int (nI nb), .ref asr, .ref pb, .ref atr, .int (nI nt), .ref tb, .ref mt])), (ahl, .inl (cH, 16, .inr (.inr (.inr (.inr fhl))))), (h0, .inr (1, [.int (nI pn), .ref ox, .ref oy, .int (nI on), .ref ax, .ref ay, .int (nI n)])), (ox, .inl (cJ, 16, .inr (.inl fox))), (oy, .inl (cJ, 16, .inr (.inl foy))), (ax, .inl (cJ, 32, .inr (.inl fx))), (ay, .inl (cJ, 32, .inr (.inl fy)))]) (WN := [(ob, .inr (4, [.ref ahl, .int (nI nh), .ref abl, .int (nI nb), .ref asr, .ref pb, .ref atr, .int (nI nt), .ref tb, .ref mt])), (ahl, .inl (cH, 16, .inr (.inr (.inr (.inr fhl))))), (h0, .inr (1, [.int (nI pn), .ref ox, .ref oy, .int (nI on), .ref ax, .ref ay, .int (nI n)])), (ox, .inl (cJ, 16, .inr (.inl fox))), (oy, .inl (cJ, 16, .inr (.inl foy))), (ax, .inl (cJ, 32, .inr (.inl fx))), (ay, .inl (cJ, 32, .inr (.inl fy)))]) (tyC := []) (isC := []) (isR := [0, 1, 2, 3, 4, 5, 6]) (isN := [0, 1, 2, 3, 4, 5, 6]) (its := []) ⟨hx, hb, hml, hown, hts⟩ (tX4_needIndex_o l dC dI s_ nh (by omega) (by omega)) (va_cwS 2 hts gX4_corners_X4_needIndex rfl rfl rfl (by decide +kernel) ⟨Nat.le_of_ble_eq_true rfl, Nat.le_of_ble_eq_true rfl⟩) hP hD hA hS hK rfl (by decide) rfl (by decide) (by decide) rfl (by decide) rfl rfl rfl hl.1 (Nat.le_of_ble_eq_true rfl) dX4_corners_5 ⟨Nat.le_of_ble_eq_true rfl, Nat.le_of_ble_eq_true rfl⟩ (fun H locs hP hD hS => ?_)
  refine lv_aload_n hx hb dX4_corners_8 rfl (lv_at hl 0 rfl) ?_
  refine va_get (D := (dC, dI)) (ci := 4) (v := .ref ahl) (C := RX4) (T := TX4) (N := 10) hx hb hts hi4 hown hK hP 0 rfl rfl 0 (by decide) f11 (fun _ h9 => h9) rfl dX4_corners_9 ?_
  refine lv_iload_n hx hb dX4_corners_12 rfl (lv_at hl 1 rfl) ?_
  refine va_aldq hx hb hK hP 1 0 rfl rfl (vp_in_nI (show s_ < 16 by omega) (by omega)) dX4_corners_13 ?_
  rw [show (nI s_).toNatClampNeg = s_ from nI_clamp (show s_ < 2 ^ 31 by omega)]
  rw [show (fhl s_) = some h0 from hh]
  refine va_get (D := (dC, dI)) (ci := 1) (v := .int (nI n)) (C := RX1) (T := TX1) (N := 7) hx hb hts hi1 hown hK hP 2 rfl rfl 6 (by decide) f82 (fun _ h9 => h9) rfl dX4_corners_14 ?_
  exact kEi hx hb hr hlocks hP hK hD hS dX4_corners_17 rfl

set_option maxHeartbeats 4000000 in
set_option maxRecDepth 100000 in
theorem tX4_corner_o0 (l : Launch) (dC : Nat → ClassId) (dI : Nat → Nat → Nat) (cH cJ : ClassId) (ob ahl nh abl nb asr pb atr nt tb mt : Nat) (fhl : Nat → Option Nat) (s_ : Nat) (h0 ox oy ax ay pn on n : Nat) (fox foy fx fy : Nat → Int64) (k : Nat) (hs : s_ < nh) (hn : nh ≤ 16) (hh : fhl s_ = some h0) (hk : k < n) (hn2 : n ≤ 32) : MMl l yX4_corner wsX4_corner { frames := 1, cells := 0, slots := 0, locals := 21 } [.ref ob, .int (nI s_), .int (nI k), .int (nI 0)] (dC, dI) [(ob, .inr (4, [.ref ahl, .int (nI nh), .ref abl, .int (nI nb), .ref asr, .ref pb, .ref atr, .int (nI nt), .ref tb, .ref mt])), (ahl, .inl (cH, 16, .inr (.inr (.inr (.inr fhl))))), (h0, .inr (1, [.int (nI pn), .ref ox, .ref oy, .int (nI on), .ref ax, .ref ay, .int (nI n)])), (ox, .inl (cJ, 16, .inr (.inl fox))), (oy, .inl (cJ, 16, .inr (.inl foy))), (ax, .inl (cJ, 32, .inr (.inl fx))), (ay, .inl (cJ, 32, .inr (.inl fy)))] [(ob, .inr (4, [.ref ahl, .int (nI nh), .ref abl, .int (nI nb), .ref asr, .ref pb, .ref atr, .int (nI nt), .ref tb, .ref mt])), (ahl, .inl (cH, 16, .inr (.inr (.inr (.inr fhl))))), (h0, .inr (1, [.int (nI pn), .ref ox, .ref oy, .int (nI on), .ref ax, .ref ay, .int (nI n)])), (ox, .inl (cJ, 16, .inr (.inl fox))), (oy, .inl (cJ, 16, .inr (.inl foy))), (ax, .inl (cJ, 32, .inr (.inl fx))), (ay, .inl (cJ, 32, .inr (.inl fy)))] [(cH, .object "SweptBoxes$Hull"), (cJ, .long)] (fx k) := by
  intro sz
  refine kOf (cc := cX4_corner) (maxL := 5) (ret := (some .long)) (by decide) rfl (Nat.le_of_ble_eq_true rfl) ?_
  intro p e s m below meth c hx hb hr hml hts hown hlocks hB ls hl
  obtain ⟨hsz, hP, hK, hD0⟩ := hB
  subst hsz
  have hD := hD0.self (sz := s.heap.size)
  generalize hAe : va_A [(ob, .inr (4, [.ref ahl, .int (nI nh), .ref abl, .int (nI nb), .ref asr, .ref pb, .ref atr, .int (nI nt), .ref tb, .ref mt])), (ahl, .inl (cH, 16, .inr (.inr (.inr (.inr fhl))))), (h0, .inr (1, [.int (nI pn), .ref ox, .ref oy, .int (nI on), .ref ax, .ref ay, .int (nI n)])), (ox, .inl (cJ, 16, .inr (.inl fox))), (oy, .inl (cJ, 16, .inr (.inl foy))), (ax, .inl (cJ, 32, .inr (.inl fx))), (ay, .inl (cJ, 32, .inr (.inl fy)))] s.heap.size = A at hD ⊢
  have hA : ∀ q : Nat, s.heap.size ≤ q → A q := fun q h => by rw [← hAe]; exact Or.inr h
  have hS : va_S A s.heap s.heap [] := va_S.rf
  have hl : lv_has ls 5 [(0, .ref ob), (1, .int (nI s_)), (2, .int (nI k)), (3, .int (nI 0))] := hl
  have hi1 : ∀ w ∈ u_ws RX1 TX1 7, w ∈ wsX4_corner := by decide +kernel
  have hi4 : ∀ w ∈ u_ws RX4 TX4 10, w ∈ wsX4_corner := by decide +kernel
  have f11 := hts (.fieldLink RX4 11 "SweptBoxes" "hulls" "[LSweptBoxes$Hull;") (by decide +kernel)
  have f51 := hts (.fieldLink RX4 51 "SweptBoxes" "hullCount" "I") (by decide +kernel)
  have f82 := hts (.fieldLink RX4 82 "SweptBoxes$Hull" "size" "I") (by decide +kernel)
  have f85 := hts (.fieldLink RX4 85 "SweptBoxes$Hull" "xs" "[J") (by decide +kernel)
  refine lv_iload_n hx hb dX4_corner_0 rfl (lv_at hl 1 rfl) ?_
  refine lv_aload_n hx hb dX4_corner_1 rfl (lv_at hl 0 rfl) ?_
  refine va_get (D := (dC, dI)) (ci := 4) (v := .int (nI nh)) (C := RX4) (T := TX4) (N := 10) hx hb hts hi4 hown hK hP 0 rfl rfl 1 (by decide) f51 (fun _ h9 => h9) rfl dX4_corner_2 ?_
  refine kmSv (As := [.int (nI s_), .int (nI nh)]) (rest := []) (WC := []) (W2 := []) (WR := [(ob, .inr (4, [.ref ahl, .int (nI nh), .ref abl, .int (nI nb), .ref asr, .ref pb, .ref atr, .int (nI nt), .ref tb, .ref mt])), (ahl, .inl (cH, 16, .inr (.inr (.inr (.inr fhl))))), (h0, .inr (1, [.int (nI pn), .ref ox, .ref oy, .int (nI on), .ref ax, .ref ay, .int (nI n)])), (ox, .inl (cJ, 16, .inr (.inl fox))), (oy, .inl (cJ, 16, .inr (.inl foy))), (ax, .inl (cJ, 32, .inr (.inl fx))), (ay, .inl (cJ, 32, .inr (.inl fy)))]) (WN := [(ob, .inr (4, [.ref ahl, .int (nI nh), .ref abl, .int (nI nb), .ref asr, .ref pb, .ref atr, .int (nI nt), .ref tb, .ref mt])), (ahl, .inl (cH, 16, .inr (.inr (.inr (.inr fhl))))), (h0, .inr (1, [.int (nI pn), .ref ox, .ref oy, .int (nI on), .ref ax, .ref ay, .int (nI n)])), (ox, .inl (cJ, 16, .inr (.inl fox))), (oy, .inl (cJ, 16, .inr (.inl foy))), (ax, .inl (cJ, 32, .inr (.inl fx))), (ay, .inl (cJ, 32, .inr (.inl fy)))]) (tyC := []) (isC := []) (isR := [0, 1, 2, 3, 4, 5, 6]) (isN := [0, 1, 2, 3, 4, 5, 6]) (its := []) ⟨hx, hb, hml, hown, hts⟩ (tX4_needIndex_o l dC dI s_ nh (by omega) (by omega)) (va_cwS 2 hts gX4_corner_X4_needIndex rfl rfl rfl (by decide +kernel) ⟨Nat.le_of_ble_eq_true rfl, Nat.le_of_ble_eq_true rfl⟩) hP hD hA hS hK rfl (by decide) rfl (by decide) (by decide) rfl (by decide) rfl rfl rfl hl.1 (Nat.le_of_ble_eq_true rfl) dX4_corner_5 ⟨Nat.le_of_ble_eq_true rfl, Nat.le_of_ble_eq_true rfl⟩ (fun H locs hP hD hS => ?_)
  refine lv_aload_n hx hb dX4_corner_8 rfl (lv_at hl 0 rfl) ?_
  refine va_get (D := (dC, dI)) (ci := 4) (v := .ref ahl) (C := RX4) (T := TX4) (N := 10) hx hb hts hi4 hown hK hP 0 rfl rfl 0 (by decide) f11 (fun _ h9 => h9) rfl dX4_corner_9 ?_
  refine lv_iload_n hx hb dX4_corner_12 rfl (lv_at hl 1 rfl) ?_
  refine va_aldq hx hb hK hP 1 0 rfl rfl (vp_in_nI (show s_ < 16 by omega) (by omega)) dX4_corner_13 ?_
  rw [show (nI s_).toNatClampNeg = s_ from nI_clamp (show s_ < 2 ^ 31 by omega)]
  rw [show (fhl s_) = some h0 from hh]
  refine lv_astore (lv' := [(4, .ref h0), (0, .ref ob), (1, .int (nI s_)), (2, .int (nI k)), (3, .int (nI 0))]) hx hb dX4_corner_14 hl (by decide) rfl (fun ls hl => ?_)
  refine lv_iload_n hx hb dX4_corner_16 rfl (lv_at hl 3 rfl) ?_
  refine lv_aload hx hb dX4_corner_17 (lv_at hl 0 rfl) ?_
  refine va_get (D := (dC, dI)) (ci := 1) (v := .int (nI n)) (C := RX1) (T := TX1) (N := 7) hx hb hts hi1 hown hK hP 2 rfl rfl 6 (by decide) f82 (fun _ h9 => h9) rfl dX4_corner_19 ?_
  refine kmSv (As := [.int (nI k), .int (nI n)]) (rest := []) (WC := []) (W2 := []) (WR := [(ob, .inr (4, [.ref ahl, .int (nI nh), .ref abl, .int (nI nb), .ref asr, .ref pb, .ref atr, .int (nI nt), .ref tb, .ref mt])), (ahl, .inl (cH, 16, .inr (.inr (.inr (.inr fhl))))), (h0, .inr (1, [.int (nI pn), .ref ox, .ref oy, .int (nI on), .ref ax, .ref ay, .int (nI n)])), (ox, .inl (cJ, 16, .inr (.inl fox))), (oy, .inl (cJ, 16, .inr (.inl foy))), (ax, .inl (cJ, 32, .inr (.inl fx))), (ay, .inl (cJ, 32, .inr (.inl fy)))]) (WN := [(ob, .inr (4, [.ref ahl, .int (nI nh), .ref abl, .int (nI nb), .ref asr, .ref pb, .ref atr, .int (nI nt), .ref tb, .ref mt])), (ahl, .inl (cH, 16, .inr (.inr (.inr (.inr fhl))))), (h0, .inr (1, [.int (nI pn), .ref ox, .ref oy, .int (nI on), .ref ax, .ref ay, .int (nI n)])), (ox, .inl (cJ, 16, .inr (.inl fox))), (oy, .inl (cJ, 16, .inr (.inl foy))), (ax, .inl (cJ, 32, .inr (.inl fx))), (ay, .inl (cJ, 32, .inr (.inl fy)))]) (tyC := []) (isC := []) (isR := [0, 1, 2, 3, 4, 5, 6]) (isN := [0, 1, 2, 3, 4, 5, 6]) (its := []) ⟨hx, hb, hml, hown, hts⟩ (tX4_needIndex_o l dC dI k n (by omega) (by omega)) (va_cwS 2 hts gX4_corner_X4_needIndex rfl rfl rfl (by decide +kernel) ⟨Nat.le_of_ble_eq_true rfl, Nat.le_of_ble_eq_true rfl⟩) hP hD hA hS hK rfl (by decide) rfl (by decide) (by decide) rfl (by decide) rfl rfl rfl hl.1 (Nat.le_of_ble_eq_true rfl) dX4_corner_22 ⟨Nat.le_of_ble_eq_true rfl, Nat.le_of_ble_eq_true rfl⟩ (fun H locs hP hD hS => ?_)
  refine lv_iload_n hx hb dX4_corner_25 rfl (lv_at hl 4 rfl) ?_
  refine lv_iconst (v := (nI 2)) hx hb dX4_corner_26 (by decide) ?_
  refine kmSv (As := [.int (nI 0), .int (nI 2)]) (rest := []) (WC := []) (W2 := []) (WR := [(ob, .inr (4, [.ref ahl, .int (nI nh), .ref abl, .int (nI nb), .ref asr, .ref pb, .ref atr, .int (nI nt), .ref tb, .ref mt])), (ahl, .inl (cH, 16, .inr (.inr (.inr (.inr fhl))))), (h0, .inr (1, [.int (nI pn), .ref ox, .ref oy, .int (nI on), .ref ax, .ref ay, .int (nI n)])), (ox, .inl (cJ, 16, .inr (.inl fox))), (oy, .inl (cJ, 16, .inr (.inl foy))), (ax, .inl (cJ, 32, .inr (.inl fx))), (ay, .inl (cJ, 32, .inr (.inl fy)))]) (WN := [(ob, .inr (4, [.ref ahl, .int (nI nh), .ref abl, .int (nI nb), .ref asr, .ref pb, .ref atr, .int (nI nt), .ref tb, .ref mt])), (ahl, .inl (cH, 16, .inr (.inr (.inr (.inr fhl))))), (h0, .inr (1, [.int (nI pn), .ref ox, .ref oy, .int (nI on), .ref ax, .ref ay, .int (nI n)])), (ox, .inl (cJ, 16, .inr (.inl fox))), (oy, .inl (cJ, 16, .inr (.inl foy))), (ax, .inl (cJ, 32, .inr (.inl fx))), (ay, .inl (cJ, 32, .inr (.inl fy)))]) (tyC := []) (isC := []) (isR := [0, 1, 2, 3, 4, 5, 6]) (isN := [0, 1, 2, 3, 4, 5, 6]) (its := []) ⟨hx, hb, hml, hown, hts⟩ (tX4_needIndex_o l dC dI 0 2 (by omega) (by omega)) (va_cwS 2 hts gX4_corner_X4_needIndex rfl rfl rfl (by decide +kernel) ⟨Nat.le_of_ble_eq_true rfl, Nat.le_of_ble_eq_true rfl⟩) hP hD hA hS hK rfl (by decide) rfl (by decide) (by decide) rfl (by decide) rfl rfl rfl hl.1 (Nat.le_of_ble_eq_true rfl) dX4_corner_27 ⟨Nat.le_of_ble_eq_true rfl, Nat.le_of_ble_eq_true rfl⟩ (fun H locs hP hD hS => ?_)
  refine lv_iload_n hx hb dX4_corner_30 rfl (lv_at hl 4 rfl) ?_
  refine lv_if_ne (tgt := 44) hx hb dX4_corner_31 (by decide) (fun c31 => ?_) (fun c31 => ?_)
  · skip
    exact absurd c31 (by decide)
  · rw [← nI_0, nI_eq (by omega) (by omega)] at c31
    refine lv_aload hx hb dX4_corner_34 (lv_at hl 0 rfl) ?_
    refine va_get (D := (dC, dI)) (ci := 1) (v := .ref ax) (C := RX1) (T := TX1) (N := 7) hx hb hts hi1 hown hK hP 2 rfl rfl 4 (by decide) f85 (fun _ h9 => h9) rfl dX4_corner_36 ?_
    refine lv_iload_n hx hb dX4_corner_39 rfl (lv_at hl 3 rfl) ?_
    refine va_lald hx hb hK hP 5 1 rfl rfl (vp_in_nI (show k < 32 by omega) (by omega)) dX4_corner_40 ?_
    rw [show (nI k).toNatClampNeg = k from nI_clamp (show k < 2 ^ 31 by omega)]
    refine lv_goto (tgt := 51) hx hb dX4_corner_41 (by decide) ?_
    exact kEl hx hb hr hlocks hP hK hD hS dX4_corner_51 rfl

set_option maxHeartbeats 4000000 in
set_option maxRecDepth 100000 in
theorem tX4_corner_o1 (l : Launch) (dC : Nat → ClassId) (dI : Nat → Nat → Nat) (cH cJ : ClassId) (ob ahl nh abl nb asr pb atr nt tb mt : Nat) (fhl : Nat → Option Nat) (s_ : Nat) (h0 ox oy ax ay pn on n : Nat) (fox foy fx fy : Nat → Int64) (k : Nat) (hs : s_ < nh) (hn : nh ≤ 16) (hh : fhl s_ = some h0) (hk : k < n) (hn2 : n ≤ 32) : MMl l yX4_corner wsX4_corner { frames := 1, cells := 0, slots := 0, locals := 21 } [.ref ob, .int (nI s_), .int (nI k), .int (nI 1)] (dC, dI) [(ob, .inr (4, [.ref ahl, .int (nI nh), .ref abl, .int (nI nb), .ref asr, .ref pb, .ref atr, .int (nI nt), .ref tb, .ref mt])), (ahl, .inl (cH, 16, .inr (.inr (.inr (.inr fhl))))), (h0, .inr (1, [.int (nI pn), .ref ox, .ref oy, .int (nI on), .ref ax, .ref ay, .int (nI n)])), (ox, .inl (cJ, 16, .inr (.inl fox))), (oy, .inl (cJ, 16, .inr (.inl foy))), (ax, .inl (cJ, 32, .inr (.inl fx))), (ay, .inl (cJ, 32, .inr (.inl fy)))] [(ob, .inr (4, [.ref ahl, .int (nI nh), .ref abl, .int (nI nb), .ref asr, .ref pb, .ref atr, .int (nI nt), .ref tb, .ref mt])), (ahl, .inl (cH, 16, .inr (.inr (.inr (.inr fhl))))), (h0, .inr (1, [.int (nI pn), .ref ox, .ref oy, .int (nI on), .ref ax, .ref ay, .int (nI n)])), (ox, .inl (cJ, 16, .inr (.inl fox))), (oy, .inl (cJ, 16, .inr (.inl foy))), (ax, .inl (cJ, 32, .inr (.inl fx))), (ay, .inl (cJ, 32, .inr (.inl fy)))] [(cH, .object "SweptBoxes$Hull"), (cJ, .long)] (fy k) := by
  intro sz
  refine kOf (cc := cX4_corner) (maxL := 5) (ret := (some .long)) (by decide) rfl (Nat.le_of_ble_eq_true rfl) ?_
  intro p e s m below meth c hx hb hr hml hts hown hlocks hB ls hl
  obtain ⟨hsz, hP, hK, hD0⟩ := hB
  subst hsz
  have hD := hD0.self (sz := s.heap.size)
  generalize hAe : va_A [(ob, .inr (4, [.ref ahl, .int (nI nh), .ref abl, .int (nI nb), .ref asr, .ref pb, .ref atr, .int (nI nt), .ref tb, .ref mt])), (ahl, .inl (cH, 16, .inr (.inr (.inr (.inr fhl))))), (h0, .inr (1, [.int (nI pn), .ref ox, .ref oy, .int (nI on), .ref ax, .ref ay, .int (nI n)])), (ox, .inl (cJ, 16, .inr (.inl fox))), (oy, .inl (cJ, 16, .inr (.inl foy))), (ax, .inl (cJ, 32, .inr (.inl fx))), (ay, .inl (cJ, 32, .inr (.inl fy)))] s.heap.size = A at hD ⊢
  have hA : ∀ q : Nat, s.heap.size ≤ q → A q := fun q h => by rw [← hAe]; exact Or.inr h
  have hS : va_S A s.heap s.heap [] := va_S.rf
  have hl : lv_has ls 5 [(0, .ref ob), (1, .int (nI s_)), (2, .int (nI k)), (3, .int (nI 1))] := hl
  have hi1 : ∀ w ∈ u_ws RX1 TX1 7, w ∈ wsX4_corner := by decide +kernel
  have hi4 : ∀ w ∈ u_ws RX4 TX4 10, w ∈ wsX4_corner := by decide +kernel
  have f11 := hts (.fieldLink RX4 11 "SweptBoxes" "hulls" "[LSweptBoxes$Hull;") (by decide +kernel)
  have f51 := hts (.fieldLink RX4 51 "SweptBoxes" "hullCount" "I") (by decide +kernel)
  have f82 := hts (.fieldLink RX4 82 "SweptBoxes$Hull" "size" "I") (by decide +kernel)
  have f89 := hts (.fieldLink RX4 89 "SweptBoxes$Hull" "ys" "[J") (by decide +kernel)
  refine lv_iload_n hx hb dX4_corner_0 rfl (lv_at hl 1 rfl) ?_
  refine lv_aload_n hx hb dX4_corner_1 rfl (lv_at hl 0 rfl) ?_
  refine va_get (D := (dC, dI)) (ci := 4) (v := .int (nI nh)) (C := RX4) (T := TX4) (N := 10) hx hb hts hi4 hown hK hP 0 rfl rfl 1 (by decide) f51 (fun _ h9 => h9) rfl dX4_corner_2 ?_
  refine kmSv (As := [.int (nI s_), .int (nI nh)]) (rest := []) (WC := []) (W2 := []) (WR := [(ob, .inr (4, [.ref ahl, .int (nI nh), .ref abl, .int (nI nb), .ref asr, .ref pb, .ref atr, .int (nI nt), .ref tb, .ref mt])), (ahl, .inl (cH, 16, .inr (.inr (.inr (.inr fhl))))), (h0, .inr (1, [.int (nI pn), .ref ox, .ref oy, .int (nI on), .ref ax, .ref ay, .int (nI n)])), (ox, .inl (cJ, 16, .inr (.inl fox))), (oy, .inl (cJ, 16, .inr (.inl foy))), (ax, .inl (cJ, 32, .inr (.inl fx))), (ay, .inl (cJ, 32, .inr (.inl fy)))]) (WN := [(ob, .inr (4, [.ref ahl, .int (nI nh), .ref abl, .int (nI nb), .ref asr, .ref pb, .ref atr, .int (nI nt), .ref tb, .ref mt])), (ahl, .inl (cH, 16, .inr (.inr (.inr (.inr fhl))))), (h0, .inr (1, [.int (nI pn), .ref ox, .ref oy, .int (nI on), .ref ax, .ref ay, .int (nI n)])), (ox, .inl (cJ, 16, .inr (.inl fox))), (oy, .inl (cJ, 16, .inr (.inl foy))), (ax, .inl (cJ, 32, .inr (.inl fx))), (ay, .inl (cJ, 32, .inr (.inl fy)))]) (tyC := []) (isC := []) (isR := [0, 1, 2, 3, 4, 5, 6]) (isN := [0, 1, 2, 3, 4, 5, 6]) (its := []) ⟨hx, hb, hml, hown, hts⟩ (tX4_needIndex_o l dC dI s_ nh (by omega) (by omega)) (va_cwS 2 hts gX4_corner_X4_needIndex rfl rfl rfl (by decide +kernel) ⟨Nat.le_of_ble_eq_true rfl, Nat.le_of_ble_eq_true rfl⟩) hP hD hA hS hK rfl (by decide) rfl (by decide) (by decide) rfl (by decide) rfl rfl rfl hl.1 (Nat.le_of_ble_eq_true rfl) dX4_corner_5 ⟨Nat.le_of_ble_eq_true rfl, Nat.le_of_ble_eq_true rfl⟩ (fun H locs hP hD hS => ?_)
  refine lv_aload_n hx hb dX4_corner_8 rfl (lv_at hl 0 rfl) ?_
  refine va_get (D := (dC, dI)) (ci := 4) (v := .ref ahl) (C := RX4) (T := TX4) (N := 10) hx hb hts hi4 hown hK hP 0 rfl rfl 0 (by decide) f11 (fun _ h9 => h9) rfl dX4_corner_9 ?_
  refine lv_iload_n hx hb dX4_corner_12 rfl (lv_at hl 1 rfl) ?_
  refine va_aldq hx hb hK hP 1 0 rfl rfl (vp_in_nI (show s_ < 16 by omega) (by omega)) dX4_corner_13 ?_
  rw [show (nI s_).toNatClampNeg = s_ from nI_clamp (show s_ < 2 ^ 31 by omega)]
  rw [show (fhl s_) = some h0 from hh]
  refine lv_astore (lv' := [(4, .ref h0), (0, .ref ob), (1, .int (nI s_)), (2, .int (nI k)), (3, .int (nI 1))]) hx hb dX4_corner_14 hl (by decide) rfl (fun ls hl => ?_)
  refine lv_iload_n hx hb dX4_corner_16 rfl (lv_at hl 3 rfl) ?_
  refine lv_aload hx hb dX4_corner_17 (lv_at hl 0 rfl) ?_
  refine va_get (D := (dC, dI)) (ci := 1) (v := .int (nI n)) (C := RX1) (T := TX1) (N := 7) hx hb hts hi1 hown hK hP 2 rfl rfl 6 (by decide) f82 (fun _ h9 => h9) rfl dX4_corner_19 ?_
  refine kmSv (As := [.int (nI k), .int (nI n)]) (rest := []) (WC := []) (W2 := []) (WR := [(ob, .inr (4, [.ref ahl, .int (nI nh), .ref abl, .int (nI nb), .ref asr, .ref pb, .ref atr, .int (nI nt), .ref tb, .ref mt])), (ahl, .inl (cH, 16, .inr (.inr (.inr (.inr fhl))))), (h0, .inr (1, [.int (nI pn), .ref ox, .ref oy, .int (nI on), .ref ax, .ref ay, .int (nI n)])), (ox, .inl (cJ, 16, .inr (.inl fox))), (oy, .inl (cJ, 16, .inr (.inl foy))), (ax, .inl (cJ, 32, .inr (.inl fx))), (ay, .inl (cJ, 32, .inr (.inl fy)))]) (WN := [(ob, .inr (4, [.ref ahl, .int (nI nh), .ref abl, .int (nI nb), .ref asr, .ref pb, .ref atr, .int (nI nt), .ref tb, .ref mt])), (ahl, .inl (cH, 16, .inr (.inr (.inr (.inr fhl))))), (h0, .inr (1, [.int (nI pn), .ref ox, .ref oy, .int (nI on), .ref ax, .ref ay, .int (nI n)])), (ox, .inl (cJ, 16, .inr (.inl fox))), (oy, .inl (cJ, 16, .inr (.inl foy))), (ax, .inl (cJ, 32, .inr (.inl fx))), (ay, .inl (cJ, 32, .inr (.inl fy)))]) (tyC := []) (isC := []) (isR := [0, 1, 2, 3, 4, 5, 6]) (isN := [0, 1, 2, 3, 4, 5, 6]) (its := []) ⟨hx, hb, hml, hown, hts⟩ (tX4_needIndex_o l dC dI k n (by omega) (by omega)) (va_cwS 2 hts gX4_corner_X4_needIndex rfl rfl rfl (by decide +kernel) ⟨Nat.le_of_ble_eq_true rfl, Nat.le_of_ble_eq_true rfl⟩) hP hD hA hS hK rfl (by decide) rfl (by decide) (by decide) rfl (by decide) rfl rfl rfl hl.1 (Nat.le_of_ble_eq_true rfl) dX4_corner_22 ⟨Nat.le_of_ble_eq_true rfl, Nat.le_of_ble_eq_true rfl⟩ (fun H locs hP hD hS => ?_)
  refine lv_iload_n hx hb dX4_corner_25 rfl (lv_at hl 4 rfl) ?_
  refine lv_iconst (v := (nI 2)) hx hb dX4_corner_26 (by decide) ?_
  refine kmSv (As := [.int (nI 1), .int (nI 2)]) (rest := []) (WC := []) (W2 := []) (WR := [(ob, .inr (4, [.ref ahl, .int (nI nh), .ref abl, .int (nI nb), .ref asr, .ref pb, .ref atr, .int (nI nt), .ref tb, .ref mt])), (ahl, .inl (cH, 16, .inr (.inr (.inr (.inr fhl))))), (h0, .inr (1, [.int (nI pn), .ref ox, .ref oy, .int (nI on), .ref ax, .ref ay, .int (nI n)])), (ox, .inl (cJ, 16, .inr (.inl fox))), (oy, .inl (cJ, 16, .inr (.inl foy))), (ax, .inl (cJ, 32, .inr (.inl fx))), (ay, .inl (cJ, 32, .inr (.inl fy)))]) (WN := [(ob, .inr (4, [.ref ahl, .int (nI nh), .ref abl, .int (nI nb), .ref asr, .ref pb, .ref atr, .int (nI nt), .ref tb, .ref mt])), (ahl, .inl (cH, 16, .inr (.inr (.inr (.inr fhl))))), (h0, .inr (1, [.int (nI pn), .ref ox, .ref oy, .int (nI on), .ref ax, .ref ay, .int (nI n)])), (ox, .inl (cJ, 16, .inr (.inl fox))), (oy, .inl (cJ, 16, .inr (.inl foy))), (ax, .inl (cJ, 32, .inr (.inl fx))), (ay, .inl (cJ, 32, .inr (.inl fy)))]) (tyC := []) (isC := []) (isR := [0, 1, 2, 3, 4, 5, 6]) (isN := [0, 1, 2, 3, 4, 5, 6]) (its := []) ⟨hx, hb, hml, hown, hts⟩ (tX4_needIndex_o l dC dI 1 2 (by omega) (by omega)) (va_cwS 2 hts gX4_corner_X4_needIndex rfl rfl rfl (by decide +kernel) ⟨Nat.le_of_ble_eq_true rfl, Nat.le_of_ble_eq_true rfl⟩) hP hD hA hS hK rfl (by decide) rfl (by decide) (by decide) rfl (by decide) rfl rfl rfl hl.1 (Nat.le_of_ble_eq_true rfl) dX4_corner_27 ⟨Nat.le_of_ble_eq_true rfl, Nat.le_of_ble_eq_true rfl⟩ (fun H locs hP hD hS => ?_)
  refine lv_iload_n hx hb dX4_corner_30 rfl (lv_at hl 4 rfl) ?_
  refine lv_if_ne (tgt := 44) hx hb dX4_corner_31 (by decide) (fun c31 => ?_) (fun c31 => ?_)
  · rw [← nI_0, nI_eq (by omega) (by omega)] at c31
    refine lv_aload hx hb dX4_corner_44 (lv_at hl 0 rfl) ?_
    refine va_get (D := (dC, dI)) (ci := 1) (v := .ref ay) (C := RX1) (T := TX1) (N := 7) hx hb hts hi1 hown hK hP 2 rfl rfl 5 (by decide) f89 (fun _ h9 => h9) rfl dX4_corner_46 ?_
    refine lv_iload_n hx hb dX4_corner_49 rfl (lv_at hl 3 rfl) ?_
    refine va_lald hx hb hK hP 6 1 rfl rfl (vp_in_nI (show k < 32 by omega) (by omega)) dX4_corner_50 ?_
    rw [show (nI k).toNatClampNeg = k from nI_clamp (show k < 2 ^ 31 by omega)]
    exact kEl hx hb hr hlocks hP hK hD hS dX4_corner_51 rfl
  · skip
    exact absurd c31 (by decide)

set_option maxHeartbeats 4000000 in
set_option maxRecDepth 100000 in
theorem tX4_apart_1 (l : Launch) (dC : Nat → ClassId) (dI : Nat → Nat → Nat) (cH cJ : ClassId) (ob ahl nh abl nb asr pb atr nt tb mt : Nat) (fhl : Nat → Option Nat) (s_ : Nat) (h0 ox oy ax ay pn on n : Nat) (fox foy fx fy : Nat → Int64) (hs : s_ < nh) (hn : nh ≤ 16) (hh : fhl s_ = some h0) (hn2 : n ≤ 32) : MMi l yX4_apart wsX4_apart { frames := 5, cells := 0, slots := 0, locals := 122 } [.ref ob, .int (nI s_), .int (nI s_)] (dC, dI) [(ob, .inr (4, [.ref ahl, .int (nI nh), .ref abl, .int (nI nb), .ref asr, .ref pb, .ref atr, .int (nI nt), .ref tb, .ref mt])), (ahl, .inl (cH, 16, .inr (.inr (.inr (.inr fhl))))), (h0, .inr (1, [.int (nI pn), .ref ox, .ref oy, .int (nI on), .ref ax, .ref ay, .int (nI n)])), (ox, .inl (cJ, 16, .inr (.inl fox))), (oy, .inl (cJ, 16, .inr (.inl foy))), (ax, .inl (cJ, 32, .inr (.inl fx))), (ay, .inl (cJ, 32, .inr (.inl fy)))] [(ob, .inr (4, [.ref ahl, .int (nI nh), .ref abl, .int (nI nb), .ref asr, .ref pb, .ref atr, .int (nI nt), .ref tb, .ref mt])), (ahl, .inl (cH, 16, .inr (.inr (.inr (.inr fhl))))), (h0, .inr (1, [.int (nI pn), .ref ox, .ref oy, .int (nI on), .ref ax, .ref ay, .int (nI n)])), (ox, .inl (cJ, 16, .inr (.inl fox))), (oy, .inl (cJ, 16, .inr (.inl foy))), (ax, .inl (cJ, 32, .inr (.inl fx))), (ay, .inl (cJ, 32, .inr (.inl fy)))] [(cH, .object "SweptBoxes$Hull"), (cJ, .long)] (bI (pApart fx fy n fx fy n)) := by
  intro sz
  refine kOf (cc := cX4_apart) (maxL := 3) (ret := (some .boolean)) (by decide) rfl (Nat.le_of_ble_eq_true rfl) ?_
  intro p e s m below meth c hx hb hr hml hts hown hlocks hB ls hl
  obtain ⟨hsz, hP, hK, hD0⟩ := hB
  subst hsz
  have hD := hD0.self (sz := s.heap.size)
  generalize hAe : va_A [(ob, .inr (4, [.ref ahl, .int (nI nh), .ref abl, .int (nI nb), .ref asr, .ref pb, .ref atr, .int (nI nt), .ref tb, .ref mt])), (ahl, .inl (cH, 16, .inr (.inr (.inr (.inr fhl))))), (h0, .inr (1, [.int (nI pn), .ref ox, .ref oy, .int (nI on), .ref ax, .ref ay, .int (nI n)])), (ox, .inl (cJ, 16, .inr (.inl fox))), (oy, .inl (cJ, 16, .inr (.inl foy))), (ax, .inl (cJ, 32, .inr (.inl fx))), (ay, .inl (cJ, 32, .inr (.inl fy)))] s.heap.size = A at hD ⊢
  have hA : ∀ q : Nat, s.heap.size ≤ q → A q := fun q h => by rw [← hAe]; exact Or.inr h
  have hS : va_S A s.heap s.heap [] := va_S.rf
  have hl : lv_has ls 3 [(0, .ref ob), (1, .int (nI s_)), (2, .int (nI s_))] := hl
  have hi4 : ∀ w ∈ u_ws RX4 TX4 10, w ∈ wsX4_apart := by decide +kernel
  have f11 := hts (.fieldLink RX4 11 "SweptBoxes" "hulls" "[LSweptBoxes$Hull;") (by decide +kernel)
  have f51 := hts (.fieldLink RX4 51 "SweptBoxes" "hullCount" "I") (by decide +kernel)
  refine lv_iload_n hx hb dX4_apart_0 rfl (lv_at hl 1 rfl) ?_
  refine lv_aload_n hx hb dX4_apart_1 rfl (lv_at hl 0 rfl) ?_
  refine va_get (D := (dC, dI)) (ci := 4) (v := .int (nI nh)) (C := RX4) (T := TX4) (N := 10) hx hb hts hi4 hown hK hP 0 rfl rfl 1 (by decide) f51 (fun _ h9 => h9) rfl dX4_apart_2 ?_
  refine kmSv (As := [.int (nI s_), .int (nI nh)]) (rest := []) (WC := []) (W2 := []) (WR := [(ob, .inr (4, [.ref ahl, .int (nI nh), .ref abl, .int (nI nb), .ref asr, .ref pb, .ref atr, .int (nI nt), .ref tb, .ref mt])), (ahl, .inl (cH, 16, .inr (.inr (.inr (.inr fhl))))), (h0, .inr (1, [.int (nI pn), .ref ox, .ref oy, .int (nI on), .ref ax, .ref ay, .int (nI n)])), (ox, .inl (cJ, 16, .inr (.inl fox))), (oy, .inl (cJ, 16, .inr (.inl foy))), (ax, .inl (cJ, 32, .inr (.inl fx))), (ay, .inl (cJ, 32, .inr (.inl fy)))]) (WN := [(ob, .inr (4, [.ref ahl, .int (nI nh), .ref abl, .int (nI nb), .ref asr, .ref pb, .ref atr, .int (nI nt), .ref tb, .ref mt])), (ahl, .inl (cH, 16, .inr (.inr (.inr (.inr fhl))))), (h0, .inr (1, [.int (nI pn), .ref ox, .ref oy, .int (nI on), .ref ax, .ref ay, .int (nI n)])), (ox, .inl (cJ, 16, .inr (.inl fox))), (oy, .inl (cJ, 16, .inr (.inl foy))), (ax, .inl (cJ, 32, .inr (.inl fx))), (ay, .inl (cJ, 32, .inr (.inl fy)))]) (tyC := []) (isC := []) (isR := [0, 1, 2, 3, 4, 5, 6]) (isN := [0, 1, 2, 3, 4, 5, 6]) (its := []) ⟨hx, hb, hml, hown, hts⟩ (tX4_needIndex_o l dC dI s_ nh (by omega) (by omega)) (va_cwS 2 hts gX4_apart_X4_needIndex rfl rfl rfl (by decide +kernel) ⟨Nat.le_of_ble_eq_true rfl, Nat.le_of_ble_eq_true rfl⟩) hP hD hA hS hK rfl (by decide) rfl (by decide) (by decide) rfl (by decide) rfl rfl rfl hl.1 (Nat.le_of_ble_eq_true rfl) dX4_apart_5 ⟨Nat.le_of_ble_eq_true rfl, Nat.le_of_ble_eq_true rfl⟩ (fun H locs hP hD hS => ?_)
  refine lv_iload_n hx hb dX4_apart_8 rfl (lv_at hl 2 rfl) ?_
  refine lv_aload_n hx hb dX4_apart_9 rfl (lv_at hl 0 rfl) ?_
  refine va_get (D := (dC, dI)) (ci := 4) (v := .int (nI nh)) (C := RX4) (T := TX4) (N := 10) hx hb hts hi4 hown hK hP 0 rfl rfl 1 (by decide) f51 (fun _ h9 => h9) rfl dX4_apart_10 ?_
  refine kmSv (As := [.int (nI s_), .int (nI nh)]) (rest := []) (WC := []) (W2 := []) (WR := [(ob, .inr (4, [.ref ahl, .int (nI nh), .ref abl, .int (nI nb), .ref asr, .ref pb, .ref atr, .int (nI nt), .ref tb, .ref mt])), (ahl, .inl (cH, 16, .inr (.inr (.inr (.inr fhl))))), (h0, .inr (1, [.int (nI pn), .ref ox, .ref oy, .int (nI on), .ref ax, .ref ay, .int (nI n)])), (ox, .inl (cJ, 16, .inr (.inl fox))), (oy, .inl (cJ, 16, .inr (.inl foy))), (ax, .inl (cJ, 32, .inr (.inl fx))), (ay, .inl (cJ, 32, .inr (.inl fy)))]) (WN := [(ob, .inr (4, [.ref ahl, .int (nI nh), .ref abl, .int (nI nb), .ref asr, .ref pb, .ref atr, .int (nI nt), .ref tb, .ref mt])), (ahl, .inl (cH, 16, .inr (.inr (.inr (.inr fhl))))), (h0, .inr (1, [.int (nI pn), .ref ox, .ref oy, .int (nI on), .ref ax, .ref ay, .int (nI n)])), (ox, .inl (cJ, 16, .inr (.inl fox))), (oy, .inl (cJ, 16, .inr (.inl foy))), (ax, .inl (cJ, 32, .inr (.inl fx))), (ay, .inl (cJ, 32, .inr (.inl fy)))]) (tyC := []) (isC := []) (isR := [0, 1, 2, 3, 4, 5, 6]) (isN := [0, 1, 2, 3, 4, 5, 6]) (its := []) ⟨hx, hb, hml, hown, hts⟩ (tX4_needIndex_o l dC dI s_ nh (by omega) (by omega)) (va_cwS 2 hts gX4_apart_X4_needIndex rfl rfl rfl (by decide +kernel) ⟨Nat.le_of_ble_eq_true rfl, Nat.le_of_ble_eq_true rfl⟩) hP hD hA hS hK rfl (by decide) rfl (by decide) (by decide) rfl (by decide) rfl rfl rfl hl.1 (Nat.le_of_ble_eq_true rfl) dX4_apart_13 ⟨Nat.le_of_ble_eq_true rfl, Nat.le_of_ble_eq_true rfl⟩ (fun H locs hP hD hS => ?_)
  refine lv_aload_n hx hb dX4_apart_16 rfl (lv_at hl 0 rfl) ?_
  refine va_get (D := (dC, dI)) (ci := 4) (v := .ref ahl) (C := RX4) (T := TX4) (N := 10) hx hb hts hi4 hown hK hP 0 rfl rfl 0 (by decide) f11 (fun _ h9 => h9) rfl dX4_apart_17 ?_
  refine lv_iload_n hx hb dX4_apart_20 rfl (lv_at hl 1 rfl) ?_
  refine va_aldq hx hb hK hP 1 0 rfl rfl (vp_in_nI (show s_ < 16 by omega) (by omega)) dX4_apart_21 ?_
  rw [show (nI s_).toNatClampNeg = s_ from nI_clamp (show s_ < 2 ^ 31 by omega)]
  rw [show (fhl s_) = some h0 from hh]
  refine lv_aload_n hx hb dX4_apart_22 rfl (lv_at hl 0 rfl) ?_
  refine va_get (D := (dC, dI)) (ci := 4) (v := .ref ahl) (C := RX4) (T := TX4) (N := 10) hx hb hts hi4 hown hK hP 0 rfl rfl 0 (by decide) f11 (fun _ h9 => h9) rfl dX4_apart_23 ?_
  refine lv_iload_n hx hb dX4_apart_26 rfl (lv_at hl 2 rfl) ?_
  refine va_aldq hx hb hK hP 1 0 rfl rfl (vp_in_nI (show s_ < 16 by omega) (by omega)) dX4_apart_27 ?_
  rw [show (nI s_).toNatClampNeg = s_ from nI_clamp (show s_ < 2 ^ 31 by omega)]
  rw [show (fhl s_) = some h0 from hh]
  refine kpVi (q0 := 0) (ci := 1) (As := [.ref h0]) (rest := []) (WC := [(h0, .inr (1, [.int (nI pn), .ref ox, .ref oy, .int (nI on), .ref ax, .ref ay, .int (nI n)])), (ax, .inl (cJ, 32, .inr (.inl fx))), (ay, .inl (cJ, 32, .inr (.inl fy))), (h0, .inr (1, [.int (nI pn), .ref ox, .ref oy, .int (nI on), .ref ax, .ref ay, .int (nI n)])), (ax, .inl (cJ, 32, .inr (.inl fx))), (ay, .inl (cJ, 32, .inr (.inl fy)))]) (tyC := [(cJ, .long)]) ⟨hx, hb, hml, hown, hts⟩ (tX1_isApartFrom l dC dI cJ h0 ox oy ax ay pn on n fx fy h0 ox oy ax ay pn on n fx fy (by omega) (by omega)) (cwV 1 hts gX4_apart_X1_isApartFrom rfl rfl rfl (by decide +kernel) ⟨Nat.le_of_ble_eq_true rfl, Nat.le_of_ble_eq_true rfl⟩) (kPick (isC := [2, 5, 6, 2, 5, 6]) hP rfl) (hK.sub [1] rfl) rfl rfl rfl rfl hl.1 (Nat.le_of_ble_eq_true rfl) dX4_apart_28 ⟨Nat.le_of_ble_eq_true rfl, Nat.le_of_ble_eq_true rfl⟩ ?_
  exact kEz hx hb hr hlocks hP hK hD hS dX4_apart_31 rfl

set_option maxHeartbeats 4000000 in
set_option maxRecDepth 100000 in
theorem tX4_apart_2 (l : Launch) (dC : Nat → ClassId) (dI : Nat → Nat → Nat) (cH cJ : ClassId) (ob ahl nh abl nb asr pb atr nt tb mt : Nat) (fhl : Nat → Option Nat) (s_ : Nat) (h0 ox oy ax ay pn on n : Nat) (fox foy fx fy : Nat → Int64) (t_ : Nat) (uh0 uox uoy uax uay upn uon un : Nat) (ufox ufoy ufx ufy : Nat → Int64) (hs : s_ < nh) (hn : nh ≤ 16) (hh : fhl s_ = some h0) (hn2 : n ≤ 32) (ht : t_ < nh) (hh2 : fhl t_ = some uh0) (hun : un ≤ 32) : MMi l yX4_apart wsX4_apart { frames := 5, cells := 0, slots := 0, locals := 122 } [.ref ob, .int (nI s_), .int (nI t_)] (dC, dI) [(ob, .inr (4, [.ref ahl, .int (nI nh), .ref abl, .int (nI nb), .ref asr, .ref pb, .ref atr, .int (nI nt), .ref tb, .ref mt])), (ahl, .inl (cH, 16, .inr (.inr (.inr (.inr fhl))))), (h0, .inr (1, [.int (nI pn), .ref ox, .ref oy, .int (nI on), .ref ax, .ref ay, .int (nI n)])), (ox, .inl (cJ, 16, .inr (.inl fox))), (oy, .inl (cJ, 16, .inr (.inl foy))), (ax, .inl (cJ, 32, .inr (.inl fx))), (ay, .inl (cJ, 32, .inr (.inl fy))), (uh0, .inr (1, [.int (nI upn), .ref uox, .ref uoy, .int (nI uon), .ref uax, .ref uay, .int (nI un)])), (uox, .inl (cJ, 16, .inr (.inl ufox))), (uoy, .inl (cJ, 16, .inr (.inl ufoy))), (uax, .inl (cJ, 32, .inr (.inl ufx))), (uay, .inl (cJ, 32, .inr (.inl ufy)))] [(ob, .inr (4, [.ref ahl, .int (nI nh), .ref abl, .int (nI nb), .ref asr, .ref pb, .ref atr, .int (nI nt), .ref tb, .ref mt])), (ahl, .inl (cH, 16, .inr (.inr (.inr (.inr fhl))))), (h0, .inr (1, [.int (nI pn), .ref ox, .ref oy, .int (nI on), .ref ax, .ref ay, .int (nI n)])), (ox, .inl (cJ, 16, .inr (.inl fox))), (oy, .inl (cJ, 16, .inr (.inl foy))), (ax, .inl (cJ, 32, .inr (.inl fx))), (ay, .inl (cJ, 32, .inr (.inl fy))), (uh0, .inr (1, [.int (nI upn), .ref uox, .ref uoy, .int (nI uon), .ref uax, .ref uay, .int (nI un)])), (uox, .inl (cJ, 16, .inr (.inl ufox))), (uoy, .inl (cJ, 16, .inr (.inl ufoy))), (uax, .inl (cJ, 32, .inr (.inl ufx))), (uay, .inl (cJ, 32, .inr (.inl ufy)))] [(cH, .object "SweptBoxes$Hull"), (cJ, .long)] (bI (pApart fx fy n ufx ufy un)) := by
  intro sz
  refine kOf (cc := cX4_apart) (maxL := 3) (ret := (some .boolean)) (by decide) rfl (Nat.le_of_ble_eq_true rfl) ?_
  intro p e s m below meth c hx hb hr hml hts hown hlocks hB ls hl
  obtain ⟨hsz, hP, hK, hD0⟩ := hB
  subst hsz
  have hD := hD0.self (sz := s.heap.size)
  generalize hAe : va_A [(ob, .inr (4, [.ref ahl, .int (nI nh), .ref abl, .int (nI nb), .ref asr, .ref pb, .ref atr, .int (nI nt), .ref tb, .ref mt])), (ahl, .inl (cH, 16, .inr (.inr (.inr (.inr fhl))))), (h0, .inr (1, [.int (nI pn), .ref ox, .ref oy, .int (nI on), .ref ax, .ref ay, .int (nI n)])), (ox, .inl (cJ, 16, .inr (.inl fox))), (oy, .inl (cJ, 16, .inr (.inl foy))), (ax, .inl (cJ, 32, .inr (.inl fx))), (ay, .inl (cJ, 32, .inr (.inl fy))), (uh0, .inr (1, [.int (nI upn), .ref uox, .ref uoy, .int (nI uon), .ref uax, .ref uay, .int (nI un)])), (uox, .inl (cJ, 16, .inr (.inl ufox))), (uoy, .inl (cJ, 16, .inr (.inl ufoy))), (uax, .inl (cJ, 32, .inr (.inl ufx))), (uay, .inl (cJ, 32, .inr (.inl ufy)))] s.heap.size = A at hD ⊢
  have hA : ∀ q : Nat, s.heap.size ≤ q → A q := fun q h => by rw [← hAe]; exact Or.inr h
  have hS : va_S A s.heap s.heap [] := va_S.rf
  have hl : lv_has ls 3 [(0, .ref ob), (1, .int (nI s_)), (2, .int (nI t_))] := hl
  have hi4 : ∀ w ∈ u_ws RX4 TX4 10, w ∈ wsX4_apart := by decide +kernel
  have f11 := hts (.fieldLink RX4 11 "SweptBoxes" "hulls" "[LSweptBoxes$Hull;") (by decide +kernel)
  have f51 := hts (.fieldLink RX4 51 "SweptBoxes" "hullCount" "I") (by decide +kernel)
  refine lv_iload_n hx hb dX4_apart_0 rfl (lv_at hl 1 rfl) ?_
  refine lv_aload_n hx hb dX4_apart_1 rfl (lv_at hl 0 rfl) ?_
  refine va_get (D := (dC, dI)) (ci := 4) (v := .int (nI nh)) (C := RX4) (T := TX4) (N := 10) hx hb hts hi4 hown hK hP 0 rfl rfl 1 (by decide) f51 (fun _ h9 => h9) rfl dX4_apart_2 ?_
  refine kmSv (As := [.int (nI s_), .int (nI nh)]) (rest := []) (WC := []) (W2 := []) (WR := [(ob, .inr (4, [.ref ahl, .int (nI nh), .ref abl, .int (nI nb), .ref asr, .ref pb, .ref atr, .int (nI nt), .ref tb, .ref mt])), (ahl, .inl (cH, 16, .inr (.inr (.inr (.inr fhl))))), (h0, .inr (1, [.int (nI pn), .ref ox, .ref oy, .int (nI on), .ref ax, .ref ay, .int (nI n)])), (ox, .inl (cJ, 16, .inr (.inl fox))), (oy, .inl (cJ, 16, .inr (.inl foy))), (ax, .inl (cJ, 32, .inr (.inl fx))), (ay, .inl (cJ, 32, .inr (.inl fy))), (uh0, .inr (1, [.int (nI upn), .ref uox, .ref uoy, .int (nI uon), .ref uax, .ref uay, .int (nI un)])), (uox, .inl (cJ, 16, .inr (.inl ufox))), (uoy, .inl (cJ, 16, .inr (.inl ufoy))), (uax, .inl (cJ, 32, .inr (.inl ufx))), (uay, .inl (cJ, 32, .inr (.inl ufy)))]) (WN := [(ob, .inr (4, [.ref ahl, .int (nI nh), .ref abl, .int (nI nb), .ref asr, .ref pb, .ref atr, .int (nI nt), .ref tb, .ref mt])), (ahl, .inl (cH, 16, .inr (.inr (.inr (.inr fhl))))), (h0, .inr (1, [.int (nI pn), .ref ox, .ref oy, .int (nI on), .ref ax, .ref ay, .int (nI n)])), (ox, .inl (cJ, 16, .inr (.inl fox))), (oy, .inl (cJ, 16, .inr (.inl foy))), (ax, .inl (cJ, 32, .inr (.inl fx))), (ay, .inl (cJ, 32, .inr (.inl fy))), (uh0, .inr (1, [.int (nI upn), .ref uox, .ref uoy, .int (nI uon), .ref uax, .ref uay, .int (nI un)])), (uox, .inl (cJ, 16, .inr (.inl ufox))), (uoy, .inl (cJ, 16, .inr (.inl ufoy))), (uax, .inl (cJ, 32, .inr (.inl ufx))), (uay, .inl (cJ, 32, .inr (.inl ufy)))]) (tyC := []) (isC := []) (isR := [0, 1, 2, 3, 4, 5, 6, 7, 8, 9, 10, 11]) (isN := [0, 1, 2, 3, 4, 5, 6, 7, 8, 9, 10, 11]) (its := []) ⟨hx, hb, hml, hown, hts⟩ (tX4_needIndex_o l dC dI s_ nh (by omega) (by omega)) (va_cwS 2 hts gX4_apart_X4_needIndex rfl rfl rfl (by decide +kernel) ⟨Nat.le_of_ble_eq_true rfl, Nat.le_of_ble_eq_true rfl⟩) hP hD hA hS hK rfl (by decide) rfl (by decide) (by decide) rfl (by decide) rfl rfl rfl hl.1 (Nat.le_of_ble_eq_true rfl) dX4_apart_5 ⟨Nat.le_of_ble_eq_true rfl, Nat.le_of_ble_eq_true rfl⟩ (fun H locs hP hD hS => ?_)
  refine lv_iload_n hx hb dX4_apart_8 rfl (lv_at hl 2 rfl) ?_
  refine lv_aload_n hx hb dX4_apart_9 rfl (lv_at hl 0 rfl) ?_
  refine va_get (D := (dC, dI)) (ci := 4) (v := .int (nI nh)) (C := RX4) (T := TX4) (N := 10) hx hb hts hi4 hown hK hP 0 rfl rfl 1 (by decide) f51 (fun _ h9 => h9) rfl dX4_apart_10 ?_
  refine kmSv (As := [.int (nI t_), .int (nI nh)]) (rest := []) (WC := []) (W2 := []) (WR := [(ob, .inr (4, [.ref ahl, .int (nI nh), .ref abl, .int (nI nb), .ref asr, .ref pb, .ref atr, .int (nI nt), .ref tb, .ref mt])), (ahl, .inl (cH, 16, .inr (.inr (.inr (.inr fhl))))), (h0, .inr (1, [.int (nI pn), .ref ox, .ref oy, .int (nI on), .ref ax, .ref ay, .int (nI n)])), (ox, .inl (cJ, 16, .inr (.inl fox))), (oy, .inl (cJ, 16, .inr (.inl foy))), (ax, .inl (cJ, 32, .inr (.inl fx))), (ay, .inl (cJ, 32, .inr (.inl fy))), (uh0, .inr (1, [.int (nI upn), .ref uox, .ref uoy, .int (nI uon), .ref uax, .ref uay, .int (nI un)])), (uox, .inl (cJ, 16, .inr (.inl ufox))), (uoy, .inl (cJ, 16, .inr (.inl ufoy))), (uax, .inl (cJ, 32, .inr (.inl ufx))), (uay, .inl (cJ, 32, .inr (.inl ufy)))]) (WN := [(ob, .inr (4, [.ref ahl, .int (nI nh), .ref abl, .int (nI nb), .ref asr, .ref pb, .ref atr, .int (nI nt), .ref tb, .ref mt])), (ahl, .inl (cH, 16, .inr (.inr (.inr (.inr fhl))))), (h0, .inr (1, [.int (nI pn), .ref ox, .ref oy, .int (nI on), .ref ax, .ref ay, .int (nI n)])), (ox, .inl (cJ, 16, .inr (.inl fox))), (oy, .inl (cJ, 16, .inr (.inl foy))), (ax, .inl (cJ, 32, .inr (.inl fx))), (ay, .inl (cJ, 32, .inr (.inl fy))), (uh0, .inr (1, [.int (nI upn), .ref uox, .ref uoy, .int (nI uon), .ref uax, .ref uay, .int (nI un)])), (uox, .inl (cJ, 16, .inr (.inl ufox))), (uoy, .inl (cJ, 16, .inr (.inl ufoy))), (uax, .inl (cJ, 32, .inr (.inl ufx))), (uay, .inl (cJ, 32, .inr (.inl ufy)))]) (tyC := []) (isC := []) (isR := [0, 1, 2, 3, 4, 5, 6, 7, 8, 9, 10, 11]) (isN := [0, 1, 2, 3, 4, 5, 6, 7, 8, 9, 10, 11]) (its := []) ⟨hx, hb, hml, hown, hts⟩ (tX4_needIndex_o l dC dI t_ nh (by omega) (by omega)) (va_cwS 2 hts gX4_apart_X4_needIndex rfl rfl rfl (by decide +kernel) ⟨Nat.le_of_ble_eq_true rfl, Nat.le_of_ble_eq_true rfl⟩) hP hD hA hS hK rfl (by decide) rfl (by decide) (by decide) rfl (by decide) rfl rfl rfl hl.1 (Nat.le_of_ble_eq_true rfl) dX4_apart_13 ⟨Nat.le_of_ble_eq_true rfl, Nat.le_of_ble_eq_true rfl⟩ (fun H locs hP hD hS => ?_)
  refine lv_aload_n hx hb dX4_apart_16 rfl (lv_at hl 0 rfl) ?_
  refine va_get (D := (dC, dI)) (ci := 4) (v := .ref ahl) (C := RX4) (T := TX4) (N := 10) hx hb hts hi4 hown hK hP 0 rfl rfl 0 (by decide) f11 (fun _ h9 => h9) rfl dX4_apart_17 ?_
  refine lv_iload_n hx hb dX4_apart_20 rfl (lv_at hl 1 rfl) ?_
  refine va_aldq hx hb hK hP 1 0 rfl rfl (vp_in_nI (show s_ < 16 by omega) (by omega)) dX4_apart_21 ?_
  rw [show (nI s_).toNatClampNeg = s_ from nI_clamp (show s_ < 2 ^ 31 by omega)]
  rw [show (fhl s_) = some h0 from hh]
  refine lv_aload_n hx hb dX4_apart_22 rfl (lv_at hl 0 rfl) ?_
  refine va_get (D := (dC, dI)) (ci := 4) (v := .ref ahl) (C := RX4) (T := TX4) (N := 10) hx hb hts hi4 hown hK hP 0 rfl rfl 0 (by decide) f11 (fun _ h9 => h9) rfl dX4_apart_23 ?_
  refine lv_iload_n hx hb dX4_apart_26 rfl (lv_at hl 2 rfl) ?_
  refine va_aldq hx hb hK hP 1 0 rfl rfl (vp_in_nI (show t_ < 16 by omega) (by omega)) dX4_apart_27 ?_
  rw [show (nI t_).toNatClampNeg = t_ from nI_clamp (show t_ < 2 ^ 31 by omega)]
  rw [show (fhl t_) = some uh0 from hh2]
  refine kpVi (q0 := 0) (ci := 1) (As := [.ref uh0]) (rest := []) (WC := [(h0, .inr (1, [.int (nI pn), .ref ox, .ref oy, .int (nI on), .ref ax, .ref ay, .int (nI n)])), (ax, .inl (cJ, 32, .inr (.inl fx))), (ay, .inl (cJ, 32, .inr (.inl fy))), (uh0, .inr (1, [.int (nI upn), .ref uox, .ref uoy, .int (nI uon), .ref uax, .ref uay, .int (nI un)])), (uax, .inl (cJ, 32, .inr (.inl ufx))), (uay, .inl (cJ, 32, .inr (.inl ufy)))]) (tyC := [(cJ, .long)]) ⟨hx, hb, hml, hown, hts⟩ (tX1_isApartFrom l dC dI cJ h0 ox oy ax ay pn on n fx fy uh0 uox uoy uax uay upn uon un ufx ufy (by omega) (by omega)) (cwV 1 hts gX4_apart_X1_isApartFrom rfl rfl rfl (by decide +kernel) ⟨Nat.le_of_ble_eq_true rfl, Nat.le_of_ble_eq_true rfl⟩) (kPick (isC := [2, 5, 6, 7, 10, 11]) hP rfl) (hK.sub [1] rfl) rfl rfl rfl rfl hl.1 (Nat.le_of_ble_eq_true rfl) dX4_apart_28 ⟨Nat.le_of_ble_eq_true rfl, Nat.le_of_ble_eq_true rfl⟩ ?_
  exact kEz hx hb hr hlocks hP hK hD hS dX4_apart_31 rfl

set_option maxHeartbeats 4000000 in
set_option maxRecDepth 100000 in
theorem tX4_box_o (l : Launch) (dC : Nat → ClassId) (dI : Nat → Nat → Nat) (cB : ClassId) (ob ahl nh abl nb asr pb atr nt tb mt : Nat) (fbl : Nat → Option Nat) (bk : Nat) (kx0 ky0 kx1 ky1 kdx kdy : Int64) (x0 y0 x1 y1 : Int64) (hn : nb < 16) (hh : fbl nb = some bk) (hok : (-10000 ≤ x0 ∧ x0 ≤ 10000) ∧ (-10000 ≤ y0 ∧ y0 ≤ 10000) ∧ (-10000 ≤ x1 ∧ x1 ≤ 10000) ∧ (-10000 ≤ y1 ∧ y1 ≤ 10000)) (hxx : x0 ≤ x1) (hyy : y0 ≤ y1) : MMi l yX4_box wsX4_box { frames := 2, cells := 0, slots := 0, locals := 52 } [.ref ob, .long x0, .long y0, .long x1, .long y1] (dC, dI) [(ob, .inr (4, [.ref ahl, .int (nI nh), .ref abl, .int (nI nb), .ref asr, .ref pb, .ref atr, .int (nI nt), .ref tb, .ref mt])), (abl, .inl (cB, 16, .inr (.inr (.inr (.inr fbl))))), (bk, .inr (0, [.long kx0, .long ky0, .long kx1, .long ky1, .long kdx, .long kdy]))] [(ob, .inr (4, [.ref ahl, .int (nI nh), .ref abl, .int (nI (nb + 1)), .ref asr, .ref pb, .ref atr, .int (nI nt), .ref tb, .ref mt])), (abl, .inl (cB, 16, .inr (.inr (.inr (.inr fbl))))), (bk, .inr (0, [.long x0, .long y0, .long x1, .long y1, .long 0, .long 0]))] [(cB, .object "SweptBoxes$Block")] (nI nb) := by
  intro sz
  refine kOf (cc := cX4_box) (maxL := 9) (ret := (some .int)) (by decide) rfl (Nat.le_of_ble_eq_true rfl) ?_
  intro p e s m below meth c hx hb hr hml hts hown hlocks hB ls hl
  obtain ⟨hsz, hP, hK, hD0⟩ := hB
  subst hsz
  have hD := hD0.self (sz := s.heap.size)
  generalize hAe : va_A [(ob, .inr (4, [.ref ahl, .int (nI nh), .ref abl, .int (nI nb), .ref asr, .ref pb, .ref atr, .int (nI nt), .ref tb, .ref mt])), (abl, .inl (cB, 16, .inr (.inr (.inr (.inr fbl))))), (bk, .inr (0, [.long kx0, .long ky0, .long kx1, .long ky1, .long kdx, .long kdy]))] s.heap.size = A at hD ⊢
  have hA : ∀ q : Nat, s.heap.size ≤ q → A q := fun q h => by rw [← hAe]; exact Or.inr h
  have hS : va_S A s.heap s.heap [] := va_S.rf
  have hl : lv_has ls 9 [(0, .ref ob), (1, .long x0), (3, .long y0), (5, .long x1), (7, .long y1)] := hl
  have hi4 : ∀ w ∈ u_ws RX4 TX4 10, w ∈ wsX4_box := by decide +kernel
  have f17 := hts (.fieldLink RX4 17 "SweptBoxes" "blocks" "[LSweptBoxes$Block;") (by decide +kernel)
  have f96 := hts (.fieldLink RX4 96 "SweptBoxes" "blockCount" "I") (by decide +kernel)
  refine lv_aload_n hx hb dX4_box_0 rfl (lv_at hl 0 rfl) ?_
  refine va_get (D := (dC, dI)) (ci := 4) (v := .int (nI nb)) (C := RX4) (T := TX4) (N := 10) hx hb hts hi4 hown hK hP 0 rfl rfl 3 (by decide) f96 (fun _ h9 => h9) rfl dX4_box_1 ?_
  refine lv_bipush (v := (nI 16)) hx hb dX4_box_4 (by decide) ?_
  refine lv_icmp_lt (tgt := 19) hx hb dX4_box_6 (by decide) (fun c6 => ?_) (fun c6 => ?_)
  · rw [nI_ltI (by omega) (by omega)] at c6
    refine lv_lload_n hx hb dX4_box_19 rfl (lv_at hl 1 rfl) ?_
    refine lv_lload_n hx hb dX4_box_20 rfl (lv_at hl 2 rfl) ?_
    refine kmSv (As := [.long x0, .long y0]) (rest := []) (WC := []) (W2 := []) (WR := [(ob, .inr (4, [.ref ahl, .int (nI nh), .ref abl, .int (nI nb), .ref asr, .ref pb, .ref atr, .int (nI nt), .ref tb, .ref mt])), (abl, .inl (cB, 16, .inr (.inr (.inr (.inr fbl))))), (bk, .inr (0, [.long kx0, .long ky0, .long kx1, .long ky1, .long kdx, .long kdy]))]) (WN := [(ob, .inr (4, [.ref ahl, .int (nI nh), .ref abl, .int (nI nb), .ref asr, .ref pb, .ref atr, .int (nI nt), .ref tb, .ref mt])), (abl, .inl (cB, 16, .inr (.inr (.inr (.inr fbl))))), (bk, .inr (0, [.long kx0, .long ky0, .long kx1, .long ky1, .long kdx, .long kdy]))]) (tyC := []) (isC := []) (isR := [0, 1, 2]) (isN := [0, 1, 2]) (its := []) ⟨hx, hb, hml, hown, hts⟩ (tX4_needInRange_o l dC dI x0 y0 ⟨hok.1, hok.2.1⟩) (va_cwS 2 hts gX4_box_X4_needInRange rfl rfl rfl (by decide +kernel) ⟨Nat.le_of_ble_eq_true rfl, Nat.le_of_ble_eq_true rfl⟩) hP hD hA hS hK rfl (by decide) rfl (by decide) (by decide) rfl (by decide) rfl rfl rfl hl.1 (Nat.le_of_ble_eq_true rfl) dX4_box_21 ⟨Nat.le_of_ble_eq_true rfl, Nat.le_of_ble_eq_true rfl⟩ (fun H locs hP hD hS => ?_)
    refine lv_lload hx hb dX4_box_24 (lv_at hl 3 rfl) ?_
    refine lv_lload hx hb dX4_box_26 (lv_at hl 4 rfl) ?_
    refine kmSv (As := [.long x1, .long y1]) (rest := []) (WC := []) (W2 := []) (WR := [(ob, .inr (4, [.ref ahl, .int (nI nh), .ref abl, .int (nI nb), .ref asr, .ref pb, .ref atr, .int (nI nt), .ref tb, .ref mt])), (abl, .inl (cB, 16, .inr (.inr (.inr (.inr fbl))))), (bk, .inr (0, [.long kx0, .long ky0, .long kx1, .long ky1, .long kdx, .long kdy]))]) (WN := [(ob, .inr (4, [.ref ahl, .int (nI nh), .ref abl, .int (nI nb), .ref asr, .ref pb, .ref atr, .int (nI nt), .ref tb, .ref mt])), (abl, .inl (cB, 16, .inr (.inr (.inr (.inr fbl))))), (bk, .inr (0, [.long kx0, .long ky0, .long kx1, .long ky1, .long kdx, .long kdy]))]) (tyC := []) (isC := []) (isR := [0, 1, 2]) (isN := [0, 1, 2]) (its := []) ⟨hx, hb, hml, hown, hts⟩ (tX4_needInRange_o l dC dI x1 y1 hok.2.2) (va_cwS 2 hts gX4_box_X4_needInRange rfl rfl rfl (by decide +kernel) ⟨Nat.le_of_ble_eq_true rfl, Nat.le_of_ble_eq_true rfl⟩) hP hD hA hS hK rfl (by decide) rfl (by decide) (by decide) rfl (by decide) rfl rfl rfl hl.1 (Nat.le_of_ble_eq_true rfl) dX4_box_28 ⟨Nat.le_of_ble_eq_true rfl, Nat.le_of_ble_eq_true rfl⟩ (fun H locs hP hD hS => ?_)
    refine lv_lload_n hx hb dX4_box_31 rfl (lv_at hl 1 rfl) ?_
    refine lv_lload hx hb dX4_box_32 (lv_at hl 3 rfl) ?_
    refine W.lcmp hx hb dX4_box_34 ?_
    refine lv_if_gt (tgt := 45) hx hb dX4_box_35 (by decide) (fun c35 => ?_) (fun c35 => ?_)
    · rw [lg_cmp_gt] at c35
      exact absurd hxx (Int64.not_le.mpr c35)
    · rw [lg_cmp_gt, Int64.not_lt] at c35
      refine lv_lload_n hx hb dX4_box_38 rfl (lv_at hl 2 rfl) ?_
      refine lv_lload hx hb dX4_box_39 (lv_at hl 4 rfl) ?_
      refine W.lcmp hx hb dX4_box_41 ?_
      refine lv_if_le (tgt := 55) hx hb dX4_box_42 (by decide) (fun c42 => ?_) (fun c42 => ?_)
      · rw [lg_cmp_le] at c42
        refine lv_aload_n hx hb dX4_box_55 rfl (lv_at hl 0 rfl) ?_
        refine va_get (D := (dC, dI)) (ci := 4) (v := .ref abl) (C := RX4) (T := TX4) (N := 10) hx hb hts hi4 hown hK hP 0 rfl rfl 2 (by decide) f17 (fun _ h9 => h9) rfl dX4_box_56 ?_
        refine lv_aload_n hx hb dX4_box_59 rfl (lv_at hl 0 rfl) ?_
        refine va_get (D := (dC, dI)) (ci := 4) (v := .int (nI nb)) (C := RX4) (T := TX4) (N := 10) hx hb hts hi4 hown hK hP 0 rfl rfl 3 (by decide) f96 (fun _ h9 => h9) rfl dX4_box_60 ?_
        refine va_aldq hx hb hK hP 1 0 rfl rfl (vp_in_nI (show nb < 16 by omega) (by omega)) dX4_box_63 ?_
        rw [show (nI nb).toNatClampNeg = nb from nI_clamp (show nb < 2 ^ 31 by omega)]
        rw [show (fbl nb) = some bk from hh]
        refine lv_lload_n hx hb dX4_box_64 rfl (lv_at hl 1 rfl) ?_
        refine lv_lload_n hx hb dX4_box_65 rfl (lv_at hl 2 rfl) ?_
        refine lv_lload hx hb dX4_box_66 (lv_at hl 3 rfl) ?_
        refine lv_lload hx hb dX4_box_68 (lv_at hl 4 rfl) ?_
        refine kmVv (q0 := 0) (ci := 0) (As := [.long x0, .long y0, .long x1, .long y1]) (rest := []) (WC := [(bk, .inr (0, [.long kx0, .long ky0, .long kx1, .long ky1, .long kdx, .long kdy]))]) (W2 := [(bk, .inr (0, [.long x0, .long y0, .long x1, .long y1, .long 0, .long 0]))]) (WR := [(ob, .inr (4, [.ref ahl, .int (nI nh), .ref abl, .int (nI nb), .ref asr, .ref pb, .ref atr, .int (nI nt), .ref tb, .ref mt])), (abl, .inl (cB, 16, .inr (.inr (.inr (.inr fbl)))))]) (WN := [(ob, .inr (4, [.ref ahl, .int (nI nh), .ref abl, .int (nI nb), .ref asr, .ref pb, .ref atr, .int (nI nt), .ref tb, .ref mt])), (abl, .inl (cB, 16, .inr (.inr (.inr (.inr fbl))))), (bk, .inr (0, [.long x0, .long y0, .long x1, .long y1, .long 0, .long 0]))]) (tyC := []) (isC := [2]) (isR := [0, 1]) (isN := [0, 1, 2]) (its := []) ⟨hx, hb, hml, hown, hts⟩ (tX0_put l dC dI bk kx0 ky0 kx1 ky1 kdx kdy x0 y0 x1 y1) (cwV 4 hts gX4_box_X0_put rfl rfl rfl (by decide +kernel) ⟨Nat.le_of_ble_eq_true rfl, Nat.le_of_ble_eq_true rfl⟩) hP hD hA hS hK rfl (by decide) rfl (by decide) (by decide) rfl (by decide) rfl rfl rfl rfl rfl hl.1 (Nat.le_of_ble_eq_true rfl) dX4_box_70 ⟨Nat.le_of_ble_eq_true rfl, Nat.le_of_ble_eq_true rfl⟩ (fun H locs hP hD hS => ?_)
        refine lv_aload_n hx hb dX4_box_73 rfl (lv_at hl 0 rfl) ?_
        refine lv_dup hx hb dX4_box_74 rfl ?_
        refine va_get (D := (dC, dI)) (ci := 4) (v := .int (nI nb)) (C := RX4) (T := TX4) (N := 10) hx hb hts hi4 hown hK hP 0 rfl rfl 3 (by decide) f96 (fun _ h9 => h9) rfl dX4_box_75 ?_
        refine lv_iconst (v := (nI 1)) hx hb dX4_box_78 (by decide) ?_
        refine lv_iadd hx hb dX4_box_79 ?_
        rw [show (nI nb) + (nI 1) = (nI (nb + 1)) from nI_add nb 1]
        refine va_put (D := (dC, dI)) (ci := 4) (v := .int (nI (nb + 1))) (ty := .int) (C := RX4) (T := TX4) (N := 10) hx hb hts hi4 tyX4 tyX4_ok nmX4 hown hK hP hD hS 0 rfl rfl 3 (by decide) f96 (fun _ h9 => h9) rfl (by decide +kernel) rfl rfl (Nat.le_of_ble_eq_true rfl) dX4_box_80 (fun H locs hP hD hS => ?_)
        have hP : va_P (dC, dI) vwCl [(ob, .inr (4, [.ref ahl, .int (nI nh), .ref abl, .int (nI (nb + 1)), .ref asr, .ref pb, .ref atr, .int (nI nt), .ref tb, .ref mt])), (abl, .inl (cB, 16, .inr (.inr (.inr (.inr fbl))))), (bk, .inr (0, [.long x0, .long y0, .long x1, .long y1, .long 0, .long 0]))] H := hP
        have hD : va_D A [(ob, .inr (4, [.ref ahl, .int (nI nh), .ref abl, .int (nI (nb + 1)), .ref asr, .ref pb, .ref atr, .int (nI nt), .ref tb, .ref mt])), (abl, .inl (cB, 16, .inr (.inr (.inr (.inr fbl))))), (bk, .inr (0, [.long x0, .long y0, .long x1, .long y1, .long 0, .long 0]))] := hD
        refine lv_aload_n hx hb dX4_box_83 rfl (lv_at hl 0 rfl) ?_
        refine va_get (D := (dC, dI)) (ci := 4) (v := .int (nI (nb + 1))) (C := RX4) (T := TX4) (N := 10) hx hb hts hi4 hown hK hP 0 rfl rfl 3 (by decide) f96 (fun _ h9 => h9) rfl dX4_box_84 ?_
        refine lv_iconst (v := (nI 1)) hx hb dX4_box_87 (by decide) ?_
        refine lv_isub hx hb dX4_box_88 ?_
        rw [show (nI (nb + 1)) - (nI 1) = (nI (((nb + 1)) - 1)) from pk_sub (show 1 ≤ (nb + 1) by omega)]
        exact kEi hx hb hr hlocks hP hK hD hS dX4_box_89 rfl
      · rw [lg_cmp_le, Int64.not_le] at c42
        exact absurd hyy (Int64.not_le.mpr c42)
  · rw [nI_ltI (by omega) (by omega), Nat.not_lt] at c6
    exfalso; omega

set_option maxHeartbeats 4000000 in
set_option maxRecDepth 100000 in
theorem tX4_move_o (l : Launch) (dC : Nat → ClassId) (dI : Nat → Nat → Nat) (cB : ClassId) (ob ahl nh abl nb asr pb atr nt tb mt : Nat) (fbl : Nat → Option Nat) (bk : Nat) (kx0 ky0 kx1 ky1 kdx kdy : Int64) (b : Nat) (dx dy : Int64) (hb_ : b < nb) (hn : nb ≤ 16) (hh : fbl b = some bk) (hok : (-10000 ≤ dx ∧ dx ≤ 10000) ∧ (-10000 ≤ dy ∧ dy ≤ 10000)) : MMi l yX4_move wsX4_move { frames := 1, cells := 0, slots := 0, locals := 24 } [.ref ob, .int (nI b), .long dx, .long dy] (dC, dI) [(ob, .inr (4, [.ref ahl, .int (nI nh), .ref abl, .int (nI nb), .ref asr, .ref pb, .ref atr, .int (nI nt), .ref tb, .ref mt])), (abl, .inl (cB, 16, .inr (.inr (.inr (.inr fbl))))), (bk, .inr (0, [.long kx0, .long ky0, .long kx1, .long ky1, .long kdx, .long kdy]))] [(ob, .inr (4, [.ref ahl, .int (nI nh), .ref abl, .int (nI nb), .ref asr, .ref pb, .ref atr, .int (nI nt), .ref tb, .ref mt])), (abl, .inl (cB, 16, .inr (.inr (.inr (.inr fbl))))), (bk, .inr (0, [.long kx0, .long ky0, .long kx1, .long ky1, .long dx, .long dy]))] [(cB, .object "SweptBoxes$Block")] (bI (pB (¬ (kdx = dx ∧ kdy = dy)))) := by
  intro sz
  refine kOf (cc := cX4_move) (maxL := 8) (ret := (some .boolean)) (by decide) rfl (Nat.le_of_ble_eq_true rfl) ?_
  intro p e s m below meth c hx hb hr hml hts hown hlocks hB ls hl
  obtain ⟨hsz, hP, hK, hD0⟩ := hB
  subst hsz
  have hD := hD0.self (sz := s.heap.size)
  generalize hAe : va_A [(ob, .inr (4, [.ref ahl, .int (nI nh), .ref abl, .int (nI nb), .ref asr, .ref pb, .ref atr, .int (nI nt), .ref tb, .ref mt])), (abl, .inl (cB, 16, .inr (.inr (.inr (.inr fbl))))), (bk, .inr (0, [.long kx0, .long ky0, .long kx1, .long ky1, .long kdx, .long kdy]))] s.heap.size = A at hD ⊢
  have hA : ∀ q : Nat, s.heap.size ≤ q → A q := fun q h => by rw [← hAe]; exact Or.inr h
  have hS : va_S A s.heap s.heap [] := va_S.rf
  have hl : lv_has ls 8 [(0, .ref ob), (1, .int (nI b)), (2, .long dx), (4, .long dy)] := hl
  have hi0 : ∀ w ∈ u_ws RX0 TX0 6, w ∈ wsX4_move := by decide +kernel
  have hi4 : ∀ w ∈ u_ws RX4 TX4 10, w ∈ wsX4_move := by decide +kernel
  have f17 := hts (.fieldLink RX4 17 "SweptBoxes" "blocks" "[LSweptBoxes$Block;") (by decide +kernel)
  have f96 := hts (.fieldLink RX4 96 "SweptBoxes" "blockCount" "I") (by decide +kernel)
  have f110 := hts (.fieldLink RX4 110 "SweptBoxes$Block" "dx" "J") (by decide +kernel)
  have f114 := hts (.fieldLink RX4 114 "SweptBoxes$Block" "dy" "J") (by decide +kernel)
  refine lv_iload_n hx hb dX4_move_0 rfl (lv_at hl 1 rfl) ?_
  refine lv_aload_n hx hb dX4_move_1 rfl (lv_at hl 0 rfl) ?_
  refine va_get (D := (dC, dI)) (ci := 4) (v := .int (nI nb)) (C := RX4) (T := TX4) (N := 10) hx hb hts hi4 hown hK hP 0 rfl rfl 3 (by decide) f96 (fun _ h9 => h9) rfl dX4_move_2 ?_
  refine kmSv (As := [.int (nI b), .int (nI nb)]) (rest := []) (WC := []) (W2 := []) (WR := [(ob, .inr (4, [.ref ahl, .int (nI nh), .ref abl, .int (nI nb), .ref asr, .ref pb, .ref atr, .int (nI nt), .ref tb, .ref mt])), (abl, .inl (cB, 16, .inr (.inr (.inr (.inr fbl))))), (bk, .inr (0, [.long kx0, .long ky0, .long kx1, .long ky1, .long kdx, .long kdy]))]) (WN := [(ob, .inr (4, [.ref ahl, .int (nI nh), .ref abl, .int (nI nb), .ref asr, .ref pb, .ref atr, .int (nI nt), .ref tb, .ref mt])), (abl, .inl (cB, 16, .inr (.inr (.inr (.inr fbl))))), (bk, .inr (0, [.long kx0, .long ky0, .long kx1, .long ky1, .long kdx, .long kdy]))]) (tyC := []) (isC := []) (isR := [0, 1, 2]) (isN := [0, 1, 2]) (its := []) ⟨hx, hb, hml, hown, hts⟩ (tX4_needIndex_o l dC dI b nb (by omega) (by omega)) (va_cwS 2 hts gX4_move_X4_needIndex rfl rfl rfl (by decide +kernel) ⟨Nat.le_of_ble_eq_true rfl, Nat.le_of_ble_eq_true rfl⟩) hP hD hA hS hK rfl (by decide) rfl (by decide) (by decide) rfl (by decide) rfl rfl rfl hl.1 (Nat.le_of_ble_eq_true rfl) dX4_move_5 ⟨Nat.le_of_ble_eq_true rfl, Nat.le_of_ble_eq_true rfl⟩ (fun H locs hP hD hS => ?_)
  refine lv_lload_n hx hb dX4_move_8 rfl (lv_at hl 2 rfl) ?_
  refine lv_lload hx hb dX4_move_9 (lv_at hl 3 rfl) ?_
  refine kmSv (As := [.long dx, .long dy]) (rest := []) (WC := []) (W2 := []) (WR := [(ob, .inr (4, [.ref ahl, .int (nI nh), .ref abl, .int (nI nb), .ref asr, .ref pb, .ref atr, .int (nI nt), .ref tb, .ref mt])), (abl, .inl (cB, 16, .inr (.inr (.inr (.inr fbl))))), (bk, .inr (0, [.long kx0, .long ky0, .long kx1, .long ky1, .long kdx, .long kdy]))]) (WN := [(ob, .inr (4, [.ref ahl, .int (nI nh), .ref abl, .int (nI nb), .ref asr, .ref pb, .ref atr, .int (nI nt), .ref tb, .ref mt])), (abl, .inl (cB, 16, .inr (.inr (.inr (.inr fbl))))), (bk, .inr (0, [.long kx0, .long ky0, .long kx1, .long ky1, .long kdx, .long kdy]))]) (tyC := []) (isC := []) (isR := [0, 1, 2]) (isN := [0, 1, 2]) (its := []) ⟨hx, hb, hml, hown, hts⟩ (tX4_needInRange_o l dC dI dx dy hok) (va_cwS 2 hts gX4_move_X4_needInRange rfl rfl rfl (by decide +kernel) ⟨Nat.le_of_ble_eq_true rfl, Nat.le_of_ble_eq_true rfl⟩) hP hD hA hS hK rfl (by decide) rfl (by decide) (by decide) rfl (by decide) rfl rfl rfl hl.1 (Nat.le_of_ble_eq_true rfl) dX4_move_11 ⟨Nat.le_of_ble_eq_true rfl, Nat.le_of_ble_eq_true rfl⟩ (fun H locs hP hD hS => ?_)
  refine lv_aload_n hx hb dX4_move_14 rfl (lv_at hl 0 rfl) ?_
  refine va_get (D := (dC, dI)) (ci := 4) (v := .ref abl) (C := RX4) (T := TX4) (N := 10) hx hb hts hi4 hown hK hP 0 rfl rfl 2 (by decide) f17 (fun _ h9 => h9) rfl dX4_move_15 ?_
  refine lv_iload_n hx hb dX4_move_18 rfl (lv_at hl 1 rfl) ?_
  refine va_aldq hx hb hK hP 1 0 rfl rfl (vp_in_nI (show b < 16 by omega) (by omega)) dX4_move_19 ?_
  rw [show (nI b).toNatClampNeg = b from nI_clamp (show b < 2 ^ 31 by omega)]
  rw [show (fbl b) = some bk from hh]
  refine lv_astore (lv' := [(6, .ref bk), (0, .ref ob), (1, .int (nI b)), (2, .long dx), (4, .long dy)]) hx hb dX4_move_20 hl (by decide) rfl (fun ls hl => ?_)
  refine lv_aload hx hb dX4_move_22 (lv_at hl 0 rfl) ?_
  refine va_get (D := (dC, dI)) (ci := 0) (v := .long kdx) (C := RX0) (T := TX0) (N := 6) hx hb hts hi0 hown hK hP 2 rfl rfl 4 (by decide) f110 (fun _ h9 => h9) rfl dX4_move_24 ?_
  refine lv_lload_n hx hb dX4_move_27 rfl (lv_at hl 3 rfl) ?_
  refine W.lcmp hx hb dX4_move_28 ?_
  refine lv_if_ne (tgt := 43) hx hb dX4_move_29 (by decide) (fun c29 => ?_) (fun c29 => ?_)
  · simp only [ne_eq, lg_cmp_eq] at c29
    refine lv_iconst (v := (nI 1)) hx hb dX4_move_43 (by decide) ?_
    refine lv_goto (tgt := 48) hx hb dX4_move_44 (by decide) ?_
    refine lv_istore (lv' := [(7, .int (nI 1)), (6, .ref bk), (0, .ref ob), (1, .int (nI b)), (2, .long dx), (4, .long dy)]) hx hb dX4_move_48 hl (by decide) rfl (fun ls hl => ?_)
    refine lv_aload hx hb dX4_move_50 (lv_at hl 1 rfl) ?_
    refine lv_lload_n hx hb dX4_move_52 rfl (lv_at hl 4 rfl) ?_
    refine lv_lload hx hb dX4_move_53 (lv_at hl 5 rfl) ?_
    refine kmVv (q0 := 0) (ci := 0) (As := [.long dx, .long dy]) (rest := []) (WC := [(bk, .inr (0, [.long kx0, .long ky0, .long kx1, .long ky1, .long kdx, .long kdy]))]) (W2 := [(bk, .inr (0, [.long kx0, .long ky0, .long kx1, .long ky1, .long dx, .long dy]))]) (WR := [(ob, .inr (4, [.ref ahl, .int (nI nh), .ref abl, .int (nI nb), .ref asr, .ref pb, .ref atr, .int (nI nt), .ref tb, .ref mt])), (abl, .inl (cB, 16, .inr (.inr (.inr (.inr fbl)))))]) (WN := [(ob, .inr (4, [.ref ahl, .int (nI nh), .ref abl, .int (nI nb), .ref asr, .ref pb, .ref atr, .int (nI nt), .ref tb, .ref mt])), (abl, .inl (cB, 16, .inr (.inr (.inr (.inr fbl))))), (bk, .inr (0, [.long kx0, .long ky0, .long kx1, .long ky1, .long dx, .long dy]))]) (tyC := []) (isC := [2]) (isR := [0, 1]) (isN := [0, 1, 2]) (its := []) ⟨hx, hb, hml, hown, hts⟩ (tX0_head l dC dI bk kx0 ky0 kx1 ky1 kdx kdy dx dy) (cwV 2 hts gX4_move_X0_head rfl rfl rfl (by decide +kernel) ⟨Nat.le_of_ble_eq_true rfl, Nat.le_of_ble_eq_true rfl⟩) hP hD hA hS hK rfl (by decide) rfl (by decide) (by decide) rfl (by decide) rfl rfl rfl rfl rfl hl.1 (Nat.le_of_ble_eq_true rfl) dX4_move_55 ⟨Nat.le_of_ble_eq_true rfl, Nat.le_of_ble_eq_true rfl⟩ (fun H locs hP hD hS => ?_)
    refine lv_iload hx hb dX4_move_58 (lv_at hl 0 rfl) ?_
    exact kEz hx hb hr hlocks hP hK hD hS dX4_move_60 (kp1 (fun z => by first | exact c29 z.1 | exact c40 z.2))
  · simp only [ne_eq, Decidable.not_not, lg_cmp_eq] at c29
    refine lv_aload hx hb dX4_move_32 (lv_at hl 0 rfl) ?_
    refine va_get (D := (dC, dI)) (ci := 0) (v := .long kdy) (C := RX0) (T := TX0) (N := 6) hx hb hts hi0 hown hK hP 2 rfl rfl 5 (by decide) f114 (fun _ h9 => h9) rfl dX4_move_34 ?_
    refine lv_lload hx hb dX4_move_37 (lv_at hl 4 rfl) ?_
    refine W.lcmp hx hb dX4_move_39 ?_
    refine lv_if_eq (tgt := 47) hx hb dX4_move_40 (by decide) (fun c40 => ?_) (fun c40 => ?_)
    · rw [lg_cmp_eq] at c40
      refine lv_iconst (v := (nI 0)) hx hb dX4_move_47 (by decide) ?_
      refine lv_istore (lv' := [(7, .int (nI 0)), (6, .ref bk), (0, .ref ob), (1, .int (nI b)), (2, .long dx), (4, .long dy)]) hx hb dX4_move_48 hl (by decide) rfl (fun ls hl => ?_)
      refine lv_aload hx hb dX4_move_50 (lv_at hl 1 rfl) ?_
      refine lv_lload_n hx hb dX4_move_52 rfl (lv_at hl 4 rfl) ?_
      refine lv_lload hx hb dX4_move_53 (lv_at hl 5 rfl) ?_
      refine kmVv (q0 := 0) (ci := 0) (As := [.long dx, .long dy]) (rest := []) (WC := [(bk, .inr (0, [.long kx0, .long ky0, .long kx1, .long ky1, .long kdx, .long kdy]))]) (W2 := [(bk, .inr (0, [.long kx0, .long ky0, .long kx1, .long ky1, .long dx, .long dy]))]) (WR := [(ob, .inr (4, [.ref ahl, .int (nI nh), .ref abl, .int (nI nb), .ref asr, .ref pb, .ref atr, .int (nI nt), .ref tb, .ref mt])), (abl, .inl (cB, 16, .inr (.inr (.inr (.inr fbl)))))]) (WN := [(ob, .inr (4, [.ref ahl, .int (nI nh), .ref abl, .int (nI nb), .ref asr, .ref pb, .ref atr, .int (nI nt), .ref tb, .ref mt])), (abl, .inl (cB, 16, .inr (.inr (.inr (.inr fbl))))), (bk, .inr (0, [.long kx0, .long ky0, .long kx1, .long ky1, .long dx, .long dy]))]) (tyC := []) (isC := [2]) (isR := [0, 1]) (isN := [0, 1, 2]) (its := []) ⟨hx, hb, hml, hown, hts⟩ (tX0_head l dC dI bk kx0 ky0 kx1 ky1 kdx kdy dx dy) (cwV 2 hts gX4_move_X0_head rfl rfl rfl (by decide +kernel) ⟨Nat.le_of_ble_eq_true rfl, Nat.le_of_ble_eq_true rfl⟩) hP hD hA hS hK rfl (by decide) rfl (by decide) (by decide) rfl (by decide) rfl rfl rfl rfl rfl hl.1 (Nat.le_of_ble_eq_true rfl) dX4_move_55 ⟨Nat.le_of_ble_eq_true rfl, Nat.le_of_ble_eq_true rfl⟩ (fun H locs hP hD hS => ?_)
      refine lv_iload hx hb dX4_move_58 (lv_at hl 0 rfl) ?_
      exact kEz hx hb hr hlocks hP hK hD hS dX4_move_60 (kp0 (fun z => z ⟨c29, c40⟩))
    · rw [lg_cmp_eq] at c40
      refine lv_iconst (v := (nI 1)) hx hb dX4_move_43 (by decide) ?_
      refine lv_goto (tgt := 48) hx hb dX4_move_44 (by decide) ?_
      refine lv_istore (lv' := [(7, .int (nI 1)), (6, .ref bk), (0, .ref ob), (1, .int (nI b)), (2, .long dx), (4, .long dy)]) hx hb dX4_move_48 hl (by decide) rfl (fun ls hl => ?_)
      refine lv_aload hx hb dX4_move_50 (lv_at hl 1 rfl) ?_
      refine lv_lload_n hx hb dX4_move_52 rfl (lv_at hl 4 rfl) ?_
      refine lv_lload hx hb dX4_move_53 (lv_at hl 5 rfl) ?_
      refine kmVv (q0 := 0) (ci := 0) (As := [.long dx, .long dy]) (rest := []) (WC := [(bk, .inr (0, [.long kx0, .long ky0, .long kx1, .long ky1, .long kdx, .long kdy]))]) (W2 := [(bk, .inr (0, [.long kx0, .long ky0, .long kx1, .long ky1, .long dx, .long dy]))]) (WR := [(ob, .inr (4, [.ref ahl, .int (nI nh), .ref abl, .int (nI nb), .ref asr, .ref pb, .ref atr, .int (nI nt), .ref tb, .ref mt])), (abl, .inl (cB, 16, .inr (.inr (.inr (.inr fbl)))))]) (WN := [(ob, .inr (4, [.ref ahl, .int (nI nh), .ref abl, .int (nI nb), .ref asr, .ref pb, .ref atr, .int (nI nt), .ref tb, .ref mt])), (abl, .inl (cB, 16, .inr (.inr (.inr (.inr fbl))))), (bk, .inr (0, [.long kx0, .long ky0, .long kx1, .long ky1, .long dx, .long dy]))]) (tyC := []) (isC := [2]) (isR := [0, 1]) (isN := [0, 1, 2]) (its := []) ⟨hx, hb, hml, hown, hts⟩ (tX0_head l dC dI bk kx0 ky0 kx1 ky1 kdx kdy dx dy) (cwV 2 hts gX4_move_X0_head rfl rfl rfl (by decide +kernel) ⟨Nat.le_of_ble_eq_true rfl, Nat.le_of_ble_eq_true rfl⟩) hP hD hA hS hK rfl (by decide) rfl (by decide) (by decide) rfl (by decide) rfl rfl rfl rfl rfl hl.1 (Nat.le_of_ble_eq_true rfl) dX4_move_55 ⟨Nat.le_of_ble_eq_true rfl, Nat.le_of_ble_eq_true rfl⟩ (fun H locs hP hD hS => ?_)
      refine lv_iload hx hb dX4_move_58 (lv_at hl 0 rfl) ?_
      exact kEz hx hb hr hlocks hP hK hD hS dX4_move_60 (kp1 (fun z => by first | exact c29 z.1 | exact c40 z.2))

set_option maxHeartbeats 4000000 in
set_option maxRecDepth 100000 in
theorem tX4_touch_10 (l : Launch) (dC : Nat → ClassId) (dI : Nat → Nat → Nat) (cB : ClassId) (ob ahl nh abl nb asr pb atr nt tb mt : Nat) (fbl : Nat → Option Nat) (bk : Nat) (kx0 ky0 kx1 ky1 kdx kdy : Int64) (mu ml meu mel : Int64) (mbar : Bool) (a : Nat) (ha : a < nb) (hn : nb ≤ 16) (hh : fbl a = some bk) : XMl l yX4_touch wsX4_touch { frames := 4, cells := 0, slots := 0, locals := 101 } [.ref ob, .int (nI a), .int (nI a), .int (nI 0)] (dC, dI) [(ob, .inr (4, [.ref ahl, .int (nI nh), .ref abl, .int (nI nb), .ref asr, .ref pb, .ref atr, .int (nI nt), .ref tb, .ref mt])), (abl, .inl (cB, 16, .inr (.inr (.inr (.inr fbl))))), (mt, .inr (2, [.long mu, .long ml, .long meu, .long mel, .int (bI mbar)])), (bk, .inr (0, [.long kx0, .long ky0, .long kx1, .long ky1, .long kdx, .long kdy]))] (fun (u : Int64 × Int64 × Bool) => [(ob, .inr (4, [.ref ahl, .int (nI nh), .ref abl, .int (nI nb), .ref asr, .ref pb, .ref atr, .int (nI nt), .ref tb, .ref mt])), (abl, .inl (cB, 16, .inr (.inr (.inr (.inr fbl))))), (mt, .inr (2, [.long (wUp kx0 ky0 kx1 ky1 kdx kdy kx0 ky0 kx1 ky1 kdx kdy), .long (wLo kx0 ky0 kx1 ky1 kdx kdy kx0 ky0 kx1 ky1 kdx kdy), .long u.1, .long u.2.1, .int (bI u.2.2)])), (bk, .inr (0, [.long kx0, .long ky0, .long kx1, .long ky1, .long kdx, .long kdy]))]) [(cB, .object "SweptBoxes$Block")] (wUp kx0 ky0 kx1 ky1 kdx kdy kx0 ky0 kx1 ky1 kdx kdy) := by
  intro sz
  refine kOf (cc := cX4_touch) (maxL := 4) (ret := (some .long)) (by decide) rfl (Nat.le_of_ble_eq_true rfl) ?_
  intro p e s m below meth c hx hb hr hml hts hown hlocks hB ls hl
  obtain ⟨hsz, hP, hK, hD0⟩ := hB
  subst hsz
  have hD := hD0.self (sz := s.heap.size)
  generalize hAe : va_A [(ob, .inr (4, [.ref ahl, .int (nI nh), .ref abl, .int (nI nb), .ref asr, .ref pb, .ref atr, .int (nI nt), .ref tb, .ref mt])), (abl, .inl (cB, 16, .inr (.inr (.inr (.inr fbl))))), (mt, .inr (2, [.long mu, .long ml, .long meu, .long mel, .int (bI mbar)])), (bk, .inr (0, [.long kx0, .long ky0, .long kx1, .long ky1, .long kdx, .long kdy]))] s.heap.size = A at hD ⊢
  have hA : ∀ q : Nat, s.heap.size ≤ q → A q := fun q h => by rw [← hAe]; exact Or.inr h
  have hS : va_S A s.heap s.heap [] := va_S.rf
  have hl : lv_has ls 4 [(0, .ref ob), (1, .int (nI a)), (2, .int (nI a)), (3, .int (nI 0))] := hl
  have hi2 : ∀ w ∈ u_ws RX2 TX2 5, w ∈ wsX4_touch := by decide +kernel
  have hi4 : ∀ w ∈ u_ws RX4 TX4 10, w ∈ wsX4_touch := by decide +kernel
  have f17 := hts (.fieldLink RX4 17 "SweptBoxes" "blocks" "[LSweptBoxes$Block;") (by decide +kernel)
  have f42 := hts (.fieldLink RX4 42 "SweptBoxes" "meeting" "LSweptBoxes$Meeting;") (by decide +kernel)
  have f128 := hts (.fieldLink RX4 128 "SweptBoxes$Meeting" "upper" "J") (by decide +kernel)
  refine lv_aload_n hx hb dX4_touch_0 rfl (lv_at hl 0 rfl) ?_
  refine lv_iload_n hx hb dX4_touch_1 rfl (lv_at hl 1 rfl) ?_
  refine lv_iload_n hx hb dX4_touch_2 rfl (lv_at hl 2 rfl) ?_
  refine lv_iload_n hx hb dX4_touch_3 rfl (lv_at hl 3 rfl) ?_
  refine kmVv (q0 := 0) (ci := 4) (As := [.int (nI a), .int (nI a), .int (nI 0)]) (rest := []) (WC := [(ob, .inr (4, [.ref ahl, .int (nI nh), .ref abl, .int (nI nb), .ref asr, .ref pb, .ref atr, .int (nI nt), .ref tb, .ref mt]))]) (W2 := [(ob, .inr (4, [.ref ahl, .int (nI nh), .ref abl, .int (nI nb), .ref asr, .ref pb, .ref atr, .int (nI nt), .ref tb, .ref mt]))]) (WR := [(abl, .inl (cB, 16, .inr (.inr (.inr (.inr fbl))))), (mt, .inr (2, [.long mu, .long ml, .long meu, .long mel, .int (bI mbar)])), (bk, .inr (0, [.long kx0, .long ky0, .long kx1, .long ky1, .long kdx, .long kdy]))]) (WN := [(ob, .inr (4, [.ref ahl, .int (nI nh), .ref abl, .int (nI nb), .ref asr, .ref pb, .ref atr, .int (nI nt), .ref tb, .ref mt])), (abl, .inl (cB, 16, .inr (.inr (.inr (.inr fbl))))), (mt, .inr (2, [.long mu, .long ml, .long meu, .long mel, .int (bI mbar)])), (bk, .inr (0, [.long kx0, .long ky0, .long kx1, .long ky1, .long kdx, .long kdy]))]) (tyC := []) (isC := [0]) (isR := [1, 2, 3]) (isN := [3, 0, 1, 2]) (its := []) ⟨hx, hb, hml, hown, hts⟩ (tX4_needMeeting_o l dC dI ob ahl nh abl nb asr pb atr nt tb mt a a 0 (by omega) (by omega) (by omega) (by omega)) (cwV 3 hts gX4_touch_X4_needMeeting rfl rfl rfl (by decide +kernel) ⟨Nat.le_of_ble_eq_true rfl, Nat.le_of_ble_eq_true rfl⟩) hP hD hA hS hK rfl (by decide) rfl (by decide) (by decide) rfl (by decide) rfl rfl rfl rfl rfl hl.1 (Nat.le_of_ble_eq_true rfl) dX4_touch_4 ⟨Nat.le_of_ble_eq_true rfl, Nat.le_of_ble_eq_true rfl⟩ (fun H locs hP hD hS => ?_)
  refine lv_aload_n hx hb dX4_touch_7 rfl (lv_at hl 0 rfl) ?_
  refine va_get (D := (dC, dI)) (ci := 4) (v := .ref mt) (C := RX4) (T := TX4) (N := 10) hx hb hts hi4 hown hK hP 0 rfl rfl 9 (by decide) f42 (fun _ h9 => h9) rfl dX4_touch_8 ?_
  refine lv_aload_n hx hb dX4_touch_11 rfl (lv_at hl 0 rfl) ?_
  refine va_get (D := (dC, dI)) (ci := 4) (v := .ref abl) (C := RX4) (T := TX4) (N := 10) hx hb hts hi4 hown hK hP 0 rfl rfl 2 (by decide) f17 (fun _ h9 => h9) rfl dX4_touch_12 ?_
  refine lv_iload_n hx hb dX4_touch_15 rfl (lv_at hl 1 rfl) ?_
  refine va_aldq hx hb hK hP 1 0 rfl rfl (vp_in_nI (show a < 16 by omega) (by omega)) dX4_touch_16 ?_
  rw [show (nI a).toNatClampNeg = a from nI_clamp (show a < 2 ^ 31 by omega)]
  rw [show (fbl a) = some bk from hh]
  refine lv_aload_n hx hb dX4_touch_17 rfl (lv_at hl 0 rfl) ?_
  refine va_get (D := (dC, dI)) (ci := 4) (v := .ref abl) (C := RX4) (T := TX4) (N := 10) hx hb hts hi4 hown hK hP 0 rfl rfl 2 (by decide) f17 (fun _ h9 => h9) rfl dX4_touch_18 ?_
  refine lv_iload_n hx hb dX4_touch_21 rfl (lv_at hl 2 rfl) ?_
  refine va_aldq hx hb hK hP 1 0 rfl rfl (vp_in_nI (show a < 16 by omega) (by omega)) dX4_touch_22 ?_
  rw [show (nI a).toNatClampNeg = a from nI_clamp (show a < 2 ^ 31 by omega)]
  rw [show (fbl a) = some bk from hh]
  refine kxVi (q0 := 0) (ci := 2) (As := [.ref bk, .ref bk]) (rest := []) (WC := [(mt, .inr (2, [.long mu, .long ml, .long meu, .long mel, .int (bI mbar)])), (bk, .inr (0, [.long kx0, .long ky0, .long kx1, .long ky1, .long kdx, .long kdy]))]) (W2 := (fun (u : Int64 × Int64 × Bool) => [(mt, .inr (2, [.long (wUp kx0 ky0 kx1 ky1 kdx kdy kx0 ky0 kx1 ky1 kdx kdy), .long (wLo kx0 ky0 kx1 ky1 kdx kdy kx0 ky0 kx1 ky1 kdx kdy), .long u.1, .long u.2.1, .int (bI u.2.2)])), (bk, .inr (0, [.long kx0, .long ky0, .long kx1, .long ky1, .long kdx, .long kdy]))])) (WR := [(ob, .inr (4, [.ref ahl, .int (nI nh), .ref abl, .int (nI nb), .ref asr, .ref pb, .ref atr, .int (nI nt), .ref tb, .ref mt])), (abl, .inl (cB, 16, .inr (.inr (.inr (.inr fbl)))))]) (WN := (fun (u : Int64 × Int64 × Bool) => [(ob, .inr (4, [.ref ahl, .int (nI nh), .ref abl, .int (nI nb), .ref asr, .ref pb, .ref atr, .int (nI nt), .ref tb, .ref mt])), (abl, .inl (cB, 16, .inr (.inr (.inr (.inr fbl))))), (mt, .inr (2, [.long (wUp kx0 ky0 kx1 ky1 kdx kdy kx0 ky0 kx1 ky1 kdx kdy), .long (wLo kx0 ky0 kx1 ky1 kdx kdy kx0 ky0 kx1 ky1 kdx kdy), .long u.1, .long u.2.1, .int (bI u.2.2)])), (bk, .inr (0, [.long kx0, .long ky0, .long kx1, .long ky1, .long kdx, .long kdy]))])) (tyC := []) (isC := [2, 3]) (isR := [0, 1]) (isN := [0, 1, 2, 3]) (its := []) ⟨hx, hb, hml, hown, hts⟩ (tX2_wSeek_1 l dC dI mt mu ml meu mel mbar bk kx0 ky0 kx1 ky1 kdx kdy) (cwV 2 hts gX4_touch_X2_seekTouch rfl rfl rfl (by decide +kernel) ⟨Nat.le_of_ble_eq_true rfl, Nat.le_of_ble_eq_true rfl⟩) hP hD hA hS hK rfl (by decide) rfl (by decide) (by decide) (fun _ => rfl) (by decide) rfl rfl rfl rfl rfl hl.1 (Nat.le_of_ble_eq_true rfl) dX4_touch_23 ⟨Nat.le_of_ble_eq_true rfl, Nat.le_of_ble_eq_true rfl⟩ (fun uu H locs hP hD hS => ?_)
  obtain ⟨g1, g2, g3⟩ := uu
  have hP : va_P (dC, dI) vwCl [(ob, .inr (4, [.ref ahl, .int (nI nh), .ref abl, .int (nI nb), .ref asr, .ref pb, .ref atr, .int (nI nt), .ref tb, .ref mt])), (abl, .inl (cB, 16, .inr (.inr (.inr (.inr fbl))))), (mt, .inr (2, [.long (wUp kx0 ky0 kx1 ky1 kdx kdy kx0 ky0 kx1 ky1 kdx kdy), .long (wLo kx0 ky0 kx1 ky1 kdx kdy kx0 ky0 kx1 ky1 kdx kdy), .long g1, .long g2, .int (bI g3)])), (bk, .inr (0, [.long kx0, .long ky0, .long kx1, .long ky1, .long kdx, .long kdy]))] H := hP
  have hD : va_D A [(ob, .inr (4, [.ref ahl, .int (nI nh), .ref abl, .int (nI nb), .ref asr, .ref pb, .ref atr, .int (nI nt), .ref tb, .ref mt])), (abl, .inl (cB, 16, .inr (.inr (.inr (.inr fbl))))), (mt, .inr (2, [.long (wUp kx0 ky0 kx1 ky1 kdx kdy kx0 ky0 kx1 ky1 kdx kdy), .long (wLo kx0 ky0 kx1 ky1 kdx kdy kx0 ky0 kx1 ky1 kdx kdy), .long g1, .long g2, .int (bI g3)])), (bk, .inr (0, [.long kx0, .long ky0, .long kx1, .long ky1, .long kdx, .long kdy]))] := hD
  refine lv_pop hx hb dX4_touch_26 rfl ?_
  refine lv_iload_n hx hb dX4_touch_27 rfl (lv_at hl 3 rfl) ?_
  refine lv_if_ne (tgt := 41) hx hb dX4_touch_28 (by decide) (fun c28 => ?_) (fun c28 => ?_)
  · skip
    exact absurd c28 (by decide)
  · rw [← nI_0, nI_eq (by omega) (by omega)] at c28
    refine lv_aload_n hx hb dX4_touch_31 rfl (lv_at hl 0 rfl) ?_
    refine va_get (D := (dC, dI)) (ci := 4) (v := .ref mt) (C := RX4) (T := TX4) (N := 10) hx hb hts hi4 hown hK hP 0 rfl rfl 9 (by decide) f42 (fun _ h9 => h9) rfl dX4_touch_32 ?_
    refine va_get (D := (dC, dI)) (ci := 2) (v := .long (wUp kx0 ky0 kx1 ky1 kdx kdy kx0 ky0 kx1 ky1 kdx kdy)) (C := RX2) (T := TX2) (N := 5) hx hb hts hi2 hown hK hP 2 rfl rfl 0 (by decide) f128 (fun _ h9 => h9) rfl dX4_touch_35 ?_
    refine lv_goto (tgt := 48) hx hb dX4_touch_38 (by decide) ?_
    exact kXl (u := (g1, g2, g3)) hx hb hr hlocks hP hK hD hS dX4_touch_48 rfl

set_option maxHeartbeats 4000000 in
set_option maxRecDepth 100000 in
theorem tX4_touch_20 (l : Launch) (dC : Nat → ClassId) (dI : Nat → Nat → Nat) (cB : ClassId) (ob ahl nh abl nb asr pb atr nt tb mt : Nat) (fbl : Nat → Option Nat) (bk : Nat) (kx0 ky0 kx1 ky1 kdx kdy : Int64) (bl : Nat) (lx0 ly0 lx1 ly1 ldx ldy : Int64) (mu ml meu mel : Int64) (mbar : Bool) (a b : Nat) (ha : a < nb) (hb_ : b < nb) (hn : nb ≤ 16) (hh : fbl a = some bk) (hh2 : fbl b = some bl) : XMl l yX4_touch wsX4_touch { frames := 4, cells := 0, slots := 0, locals := 101 } [.ref ob, .int (nI a), .int (nI b), .int (nI 0)] (dC, dI) [(ob, .inr (4, [.ref ahl, .int (nI nh), .ref abl, .int (nI nb), .ref asr, .ref pb, .ref atr, .int (nI nt), .ref tb, .ref mt])), (abl, .inl (cB, 16, .inr (.inr (.inr (.inr fbl))))), (mt, .inr (2, [.long mu, .long ml, .long meu, .long mel, .int (bI mbar)])), (bk, .inr (0, [.long kx0, .long ky0, .long kx1, .long ky1, .long kdx, .long kdy])), (bl, .inr (0, [.long lx0, .long ly0, .long lx1, .long ly1, .long ldx, .long ldy]))] (fun (u : Int64 × Int64 × Bool) => [(ob, .inr (4, [.ref ahl, .int (nI nh), .ref abl, .int (nI nb), .ref asr, .ref pb, .ref atr, .int (nI nt), .ref tb, .ref mt])), (abl, .inl (cB, 16, .inr (.inr (.inr (.inr fbl))))), (mt, .inr (2, [.long (wUp kx0 ky0 kx1 ky1 kdx kdy lx0 ly0 lx1 ly1 ldx ldy), .long (wLo kx0 ky0 kx1 ky1 kdx kdy lx0 ly0 lx1 ly1 ldx ldy), .long u.1, .long u.2.1, .int (bI u.2.2)])), (bk, .inr (0, [.long kx0, .long ky0, .long kx1, .long ky1, .long kdx, .long kdy])), (bl, .inr (0, [.long lx0, .long ly0, .long lx1, .long ly1, .long ldx, .long ldy]))]) [(cB, .object "SweptBoxes$Block")] (wUp kx0 ky0 kx1 ky1 kdx kdy lx0 ly0 lx1 ly1 ldx ldy) := by
  intro sz
  refine kOf (cc := cX4_touch) (maxL := 4) (ret := (some .long)) (by decide) rfl (Nat.le_of_ble_eq_true rfl) ?_
  intro p e s m below meth c hx hb hr hml hts hown hlocks hB ls hl
  obtain ⟨hsz, hP, hK, hD0⟩ := hB
  subst hsz
  have hD := hD0.self (sz := s.heap.size)
  generalize hAe : va_A [(ob, .inr (4, [.ref ahl, .int (nI nh), .ref abl, .int (nI nb), .ref asr, .ref pb, .ref atr, .int (nI nt), .ref tb, .ref mt])), (abl, .inl (cB, 16, .inr (.inr (.inr (.inr fbl))))), (mt, .inr (2, [.long mu, .long ml, .long meu, .long mel, .int (bI mbar)])), (bk, .inr (0, [.long kx0, .long ky0, .long kx1, .long ky1, .long kdx, .long kdy])), (bl, .inr (0, [.long lx0, .long ly0, .long lx1, .long ly1, .long ldx, .long ldy]))] s.heap.size = A at hD ⊢
  have hA : ∀ q : Nat, s.heap.size ≤ q → A q := fun q h => by rw [← hAe]; exact Or.inr h
  have hS : va_S A s.heap s.heap [] := va_S.rf
  have hl : lv_has ls 4 [(0, .ref ob), (1, .int (nI a)), (2, .int (nI b)), (3, .int (nI 0))] := hl
  have hi2 : ∀ w ∈ u_ws RX2 TX2 5, w ∈ wsX4_touch := by decide +kernel
  have hi4 : ∀ w ∈ u_ws RX4 TX4 10, w ∈ wsX4_touch := by decide +kernel
  have f17 := hts (.fieldLink RX4 17 "SweptBoxes" "blocks" "[LSweptBoxes$Block;") (by decide +kernel)
  have f42 := hts (.fieldLink RX4 42 "SweptBoxes" "meeting" "LSweptBoxes$Meeting;") (by decide +kernel)
  have f128 := hts (.fieldLink RX4 128 "SweptBoxes$Meeting" "upper" "J") (by decide +kernel)
  refine lv_aload_n hx hb dX4_touch_0 rfl (lv_at hl 0 rfl) ?_
  refine lv_iload_n hx hb dX4_touch_1 rfl (lv_at hl 1 rfl) ?_
  refine lv_iload_n hx hb dX4_touch_2 rfl (lv_at hl 2 rfl) ?_
  refine lv_iload_n hx hb dX4_touch_3 rfl (lv_at hl 3 rfl) ?_
  refine kmVv (q0 := 0) (ci := 4) (As := [.int (nI a), .int (nI b), .int (nI 0)]) (rest := []) (WC := [(ob, .inr (4, [.ref ahl, .int (nI nh), .ref abl, .int (nI nb), .ref asr, .ref pb, .ref atr, .int (nI nt), .ref tb, .ref mt]))]) (W2 := [(ob, .inr (4, [.ref ahl, .int (nI nh), .ref abl, .int (nI nb), .ref asr, .ref pb, .ref atr, .int (nI nt), .ref tb, .ref mt]))]) (WR := [(abl, .inl (cB, 16, .inr (.inr (.inr (.inr fbl))))), (mt, .inr (2, [.long mu, .long ml, .long meu, .long mel, .int (bI mbar)])), (bk, .inr (0, [.long kx0, .long ky0, .long kx1, .long ky1, .long kdx, .long kdy])), (bl, .inr (0, [.long lx0, .long ly0, .long lx1, .long ly1, .long ldx, .long ldy]))]) (WN := [(ob, .inr (4, [.ref ahl, .int (nI nh), .ref abl, .int (nI nb), .ref asr, .ref pb, .ref atr, .int (nI nt), .ref tb, .ref mt])), (abl, .inl (cB, 16, .inr (.inr (.inr (.inr fbl))))), (mt, .inr (2, [.long mu, .long ml, .long meu, .long mel, .int (bI mbar)])), (bk, .inr (0, [.long kx0, .long ky0, .long kx1, .long ky1, .long kdx, .long kdy])), (bl, .inr (0, [.long lx0, .long ly0, .long lx1, .long ly1, .long ldx, .long ldy]))]) (tyC := []) (isC := [0]) (isR := [1, 2, 3, 4]) (isN := [4, 0, 1, 2, 3]) (its := []) ⟨hx, hb, hml, hown, hts⟩ (tX4_needMeeting_o l dC dI ob ahl nh abl nb asr pb atr nt tb mt a b 0 (by omega) (by omega) (by omega) (by omega)) (cwV 3 hts gX4_touch_X4_needMeeting rfl rfl rfl (by decide +kernel) ⟨Nat.le_of_ble_eq_true rfl, Nat.le_of_ble_eq_true rfl⟩) hP hD hA hS hK rfl (by decide) rfl (by decide) (by decide) rfl (by decide) rfl rfl rfl rfl rfl hl.1 (Nat.le_of_ble_eq_true rfl) dX4_touch_4 ⟨Nat.le_of_ble_eq_true rfl, Nat.le_of_ble_eq_true rfl⟩ (fun H locs hP hD hS => ?_)
  refine lv_aload_n hx hb dX4_touch_7 rfl (lv_at hl 0 rfl) ?_
  refine va_get (D := (dC, dI)) (ci := 4) (v := .ref mt) (C := RX4) (T := TX4) (N := 10) hx hb hts hi4 hown hK hP 0 rfl rfl 9 (by decide) f42 (fun _ h9 => h9) rfl dX4_touch_8 ?_
  refine lv_aload_n hx hb dX4_touch_11 rfl (lv_at hl 0 rfl) ?_
  refine va_get (D := (dC, dI)) (ci := 4) (v := .ref abl) (C := RX4) (T := TX4) (N := 10) hx hb hts hi4 hown hK hP 0 rfl rfl 2 (by decide) f17 (fun _ h9 => h9) rfl dX4_touch_12 ?_
  refine lv_iload_n hx hb dX4_touch_15 rfl (lv_at hl 1 rfl) ?_
  refine va_aldq hx hb hK hP 1 0 rfl rfl (vp_in_nI (show a < 16 by omega) (by omega)) dX4_touch_16 ?_
  rw [show (nI a).toNatClampNeg = a from nI_clamp (show a < 2 ^ 31 by omega)]
  rw [show (fbl a) = some bk from hh]
  refine lv_aload_n hx hb dX4_touch_17 rfl (lv_at hl 0 rfl) ?_
  refine va_get (D := (dC, dI)) (ci := 4) (v := .ref abl) (C := RX4) (T := TX4) (N := 10) hx hb hts hi4 hown hK hP 0 rfl rfl 2 (by decide) f17 (fun _ h9 => h9) rfl dX4_touch_18 ?_
  refine lv_iload_n hx hb dX4_touch_21 rfl (lv_at hl 2 rfl) ?_
  refine va_aldq hx hb hK hP 1 0 rfl rfl (vp_in_nI (show b < 16 by omega) (by omega)) dX4_touch_22 ?_
  rw [show (nI b).toNatClampNeg = b from nI_clamp (show b < 2 ^ 31 by omega)]
  rw [show (fbl b) = some bl from hh2]
  refine kxVi (q0 := 0) (ci := 2) (As := [.ref bk, .ref bl]) (rest := []) (WC := [(mt, .inr (2, [.long mu, .long ml, .long meu, .long mel, .int (bI mbar)])), (bk, .inr (0, [.long kx0, .long ky0, .long kx1, .long ky1, .long kdx, .long kdy])), (bl, .inr (0, [.long lx0, .long ly0, .long lx1, .long ly1, .long ldx, .long ldy]))]) (W2 := (fun (u : Int64 × Int64 × Bool) => [(mt, .inr (2, [.long (wUp kx0 ky0 kx1 ky1 kdx kdy lx0 ly0 lx1 ly1 ldx ldy), .long (wLo kx0 ky0 kx1 ky1 kdx kdy lx0 ly0 lx1 ly1 ldx ldy), .long u.1, .long u.2.1, .int (bI u.2.2)])), (bk, .inr (0, [.long kx0, .long ky0, .long kx1, .long ky1, .long kdx, .long kdy])), (bl, .inr (0, [.long lx0, .long ly0, .long lx1, .long ly1, .long ldx, .long ldy]))])) (WR := [(ob, .inr (4, [.ref ahl, .int (nI nh), .ref abl, .int (nI nb), .ref asr, .ref pb, .ref atr, .int (nI nt), .ref tb, .ref mt])), (abl, .inl (cB, 16, .inr (.inr (.inr (.inr fbl)))))]) (WN := (fun (u : Int64 × Int64 × Bool) => [(ob, .inr (4, [.ref ahl, .int (nI nh), .ref abl, .int (nI nb), .ref asr, .ref pb, .ref atr, .int (nI nt), .ref tb, .ref mt])), (abl, .inl (cB, 16, .inr (.inr (.inr (.inr fbl))))), (mt, .inr (2, [.long (wUp kx0 ky0 kx1 ky1 kdx kdy lx0 ly0 lx1 ly1 ldx ldy), .long (wLo kx0 ky0 kx1 ky1 kdx kdy lx0 ly0 lx1 ly1 ldx ldy), .long u.1, .long u.2.1, .int (bI u.2.2)])), (bk, .inr (0, [.long kx0, .long ky0, .long kx1, .long ky1, .long kdx, .long kdy])), (bl, .inr (0, [.long lx0, .long ly0, .long lx1, .long ly1, .long ldx, .long ldy]))])) (tyC := []) (isC := [2, 3, 4]) (isR := [0, 1]) (isN := [0, 1, 2, 3, 4]) (its := []) ⟨hx, hb, hml, hown, hts⟩ (tX2_wSeek l dC dI mt mu ml meu mel mbar bk kx0 ky0 kx1 ky1 kdx kdy bl lx0 ly0 lx1 ly1 ldx ldy) (cwV 2 hts gX4_touch_X2_seekTouch rfl rfl rfl (by decide +kernel) ⟨Nat.le_of_ble_eq_true rfl, Nat.le_of_ble_eq_true rfl⟩) hP hD hA hS hK rfl (by decide) rfl (by decide) (by decide) (fun _ => rfl) (by decide) rfl rfl rfl rfl rfl hl.1 (Nat.le_of_ble_eq_true rfl) dX4_touch_23 ⟨Nat.le_of_ble_eq_true rfl, Nat.le_of_ble_eq_true rfl⟩ (fun uu H locs hP hD hS => ?_)
  obtain ⟨g1, g2, g3⟩ := uu
  have hP : va_P (dC, dI) vwCl [(ob, .inr (4, [.ref ahl, .int (nI nh), .ref abl, .int (nI nb), .ref asr, .ref pb, .ref atr, .int (nI nt), .ref tb, .ref mt])), (abl, .inl (cB, 16, .inr (.inr (.inr (.inr fbl))))), (mt, .inr (2, [.long (wUp kx0 ky0 kx1 ky1 kdx kdy lx0 ly0 lx1 ly1 ldx ldy), .long (wLo kx0 ky0 kx1 ky1 kdx kdy lx0 ly0 lx1 ly1 ldx ldy), .long g1, .long g2, .int (bI g3)])), (bk, .inr (0, [.long kx0, .long ky0, .long kx1, .long ky1, .long kdx, .long kdy])), (bl, .inr (0, [.long lx0, .long ly0, .long lx1, .long ly1, .long ldx, .long ldy]))] H := hP
  have hD : va_D A [(ob, .inr (4, [.ref ahl, .int (nI nh), .ref abl, .int (nI nb), .ref asr, .ref pb, .ref atr, .int (nI nt), .ref tb, .ref mt])), (abl, .inl (cB, 16, .inr (.inr (.inr (.inr fbl))))), (mt, .inr (2, [.long (wUp kx0 ky0 kx1 ky1 kdx kdy lx0 ly0 lx1 ly1 ldx ldy), .long (wLo kx0 ky0 kx1 ky1 kdx kdy lx0 ly0 lx1 ly1 ldx ldy), .long g1, .long g2, .int (bI g3)])), (bk, .inr (0, [.long kx0, .long ky0, .long kx1, .long ky1, .long kdx, .long kdy])), (bl, .inr (0, [.long lx0, .long ly0, .long lx1, .long ly1, .long ldx, .long ldy]))] := hD
  refine lv_pop hx hb dX4_touch_26 rfl ?_
  refine lv_iload_n hx hb dX4_touch_27 rfl (lv_at hl 3 rfl) ?_
  refine lv_if_ne (tgt := 41) hx hb dX4_touch_28 (by decide) (fun c28 => ?_) (fun c28 => ?_)
  · skip
    exact absurd c28 (by decide)
  · rw [← nI_0, nI_eq (by omega) (by omega)] at c28
    refine lv_aload_n hx hb dX4_touch_31 rfl (lv_at hl 0 rfl) ?_
    refine va_get (D := (dC, dI)) (ci := 4) (v := .ref mt) (C := RX4) (T := TX4) (N := 10) hx hb hts hi4 hown hK hP 0 rfl rfl 9 (by decide) f42 (fun _ h9 => h9) rfl dX4_touch_32 ?_
    refine va_get (D := (dC, dI)) (ci := 2) (v := .long (wUp kx0 ky0 kx1 ky1 kdx kdy lx0 ly0 lx1 ly1 ldx ldy)) (C := RX2) (T := TX2) (N := 5) hx hb hts hi2 hown hK hP 2 rfl rfl 0 (by decide) f128 (fun _ h9 => h9) rfl dX4_touch_35 ?_
    refine lv_goto (tgt := 48) hx hb dX4_touch_38 (by decide) ?_
    exact kXl (u := (g1, g2, g3)) hx hb hr hlocks hP hK hD hS dX4_touch_48 rfl

set_option maxHeartbeats 4000000 in
set_option maxRecDepth 100000 in
theorem tX4_touch_11 (l : Launch) (dC : Nat → ClassId) (dI : Nat → Nat → Nat) (cB : ClassId) (ob ahl nh abl nb asr pb atr nt tb mt : Nat) (fbl : Nat → Option Nat) (bk : Nat) (kx0 ky0 kx1 ky1 kdx kdy : Int64) (mu ml meu mel : Int64) (mbar : Bool) (a : Nat) (ha : a < nb) (hn : nb ≤ 16) (hh : fbl a = some bk) : XMl l yX4_touch wsX4_touch { frames := 4, cells := 0, slots := 0, locals := 101 } [.ref ob, .int (nI a), .int (nI a), .int (nI 1)] (dC, dI) [(ob, .inr (4, [.ref ahl, .int (nI nh), .ref abl, .int (nI nb), .ref asr, .ref pb, .ref atr, .int (nI nt), .ref tb, .ref mt])), (abl, .inl (cB, 16, .inr (.inr (.inr (.inr fbl))))), (mt, .inr (2, [.long mu, .long ml, .long meu, .long mel, .int (bI mbar)])), (bk, .inr (0, [.long kx0, .long ky0, .long kx1, .long ky1, .long kdx, .long kdy]))] (fun (u : Int64 × Int64 × Bool) => [(ob, .inr (4, [.ref ahl, .int (nI nh), .ref abl, .int (nI nb), .ref asr, .ref pb, .ref atr, .int (nI nt), .ref tb, .ref mt])), (abl, .inl (cB, 16, .inr (.inr (.inr (.inr fbl))))), (mt, .inr (2, [.long (wUp kx0 ky0 kx1 ky1 kdx kdy kx0 ky0 kx1 ky1 kdx kdy), .long (wLo kx0 ky0 kx1 ky1 kdx kdy kx0 ky0 kx1 ky1 kdx kdy), .long u.1, .long u.2.1, .int (bI u.2.2)])), (bk, .inr (0, [.long kx0, .long ky0, .long kx1, .long ky1, .long kdx, .long kdy]))]) [(cB, .object "SweptBoxes$Block")] (wLo kx0 ky0 kx1 ky1 kdx kdy kx0 ky0 kx1 ky1 kdx kdy) := by
  intro sz
  refine kOf (cc := cX4_touch) (maxL := 4) (ret := (some .long)) (by decide) rfl (Nat.le_of_ble_eq_true rfl) ?_
  intro p e s m below meth c hx hb hr hml hts hown hlocks hB ls hl
  obtain ⟨hsz, hP, hK, hD0⟩ := hB
  subst hsz
  have hD := hD0.self (sz := s.heap.size)
  generalize hAe : va_A [(ob, .inr (4, [.ref ahl, .int (nI nh), .ref abl, .int (nI nb), .ref asr, .ref pb, .ref atr, .int (nI nt), .ref tb, .ref mt])), (abl, .inl (cB, 16, .inr (.inr (.inr (.inr fbl))))), (mt, .inr (2, [.long mu, .long ml, .long meu, .long mel, .int (bI mbar)])), (bk, .inr (0, [.long kx0, .long ky0, .long kx1, .long ky1, .long kdx, .long kdy]))] s.heap.size = A at hD ⊢
  have hA : ∀ q : Nat, s.heap.size ≤ q → A q := fun q h => by rw [← hAe]; exact Or.inr h
  have hS : va_S A s.heap s.heap [] := va_S.rf
  have hl : lv_has ls 4 [(0, .ref ob), (1, .int (nI a)), (2, .int (nI a)), (3, .int (nI 1))] := hl
  have hi2 : ∀ w ∈ u_ws RX2 TX2 5, w ∈ wsX4_touch := by decide +kernel
  have hi4 : ∀ w ∈ u_ws RX4 TX4 10, w ∈ wsX4_touch := by decide +kernel
  have f17 := hts (.fieldLink RX4 17 "SweptBoxes" "blocks" "[LSweptBoxes$Block;") (by decide +kernel)
  have f42 := hts (.fieldLink RX4 42 "SweptBoxes" "meeting" "LSweptBoxes$Meeting;") (by decide +kernel)
  have f131 := hts (.fieldLink RX4 131 "SweptBoxes$Meeting" "lower" "J") (by decide +kernel)
  refine lv_aload_n hx hb dX4_touch_0 rfl (lv_at hl 0 rfl) ?_
  refine lv_iload_n hx hb dX4_touch_1 rfl (lv_at hl 1 rfl) ?_
  refine lv_iload_n hx hb dX4_touch_2 rfl (lv_at hl 2 rfl) ?_
  refine lv_iload_n hx hb dX4_touch_3 rfl (lv_at hl 3 rfl) ?_
  refine kmVv (q0 := 0) (ci := 4) (As := [.int (nI a), .int (nI a), .int (nI 1)]) (rest := []) (WC := [(ob, .inr (4, [.ref ahl, .int (nI nh), .ref abl, .int (nI nb), .ref asr, .ref pb, .ref atr, .int (nI nt), .ref tb, .ref mt]))]) (W2 := [(ob, .inr (4, [.ref ahl, .int (nI nh), .ref abl, .int (nI nb), .ref asr, .ref pb, .ref atr, .int (nI nt), .ref tb, .ref mt]))]) (WR := [(abl, .inl (cB, 16, .inr (.inr (.inr (.inr fbl))))), (mt, .inr (2, [.long mu, .long ml, .long meu, .long mel, .int (bI mbar)])), (bk, .inr (0, [.long kx0, .long ky0, .long kx1, .long ky1, .long kdx, .long kdy]))]) (WN := [(ob, .inr (4, [.ref ahl, .int (nI nh), .ref abl, .int (nI nb), .ref asr, .ref pb, .ref atr, .int (nI nt), .ref tb, .ref mt])), (abl, .inl (cB, 16, .inr (.inr (.inr (.inr fbl))))), (mt, .inr (2, [.long mu, .long ml, .long meu, .long mel, .int (bI mbar)])), (bk, .inr (0, [.long kx0, .long ky0, .long kx1, .long ky1, .long kdx, .long kdy]))]) (tyC := []) (isC := [0]) (isR := [1, 2, 3]) (isN := [3, 0, 1, 2]) (its := []) ⟨hx, hb, hml, hown, hts⟩ (tX4_needMeeting_o l dC dI ob ahl nh abl nb asr pb atr nt tb mt a a 1 (by omega) (by omega) (by omega) (by omega)) (cwV 3 hts gX4_touch_X4_needMeeting rfl rfl rfl (by decide +kernel) ⟨Nat.le_of_ble_eq_true rfl, Nat.le_of_ble_eq_true rfl⟩) hP hD hA hS hK rfl (by decide) rfl (by decide) (by decide) rfl (by decide) rfl rfl rfl rfl rfl hl.1 (Nat.le_of_ble_eq_true rfl) dX4_touch_4 ⟨Nat.le_of_ble_eq_true rfl, Nat.le_of_ble_eq_true rfl⟩ (fun H locs hP hD hS => ?_)
  refine lv_aload_n hx hb dX4_touch_7 rfl (lv_at hl 0 rfl) ?_
  refine va_get (D := (dC, dI)) (ci := 4) (v := .ref mt) (C := RX4) (T := TX4) (N := 10) hx hb hts hi4 hown hK hP 0 rfl rfl 9 (by decide) f42 (fun _ h9 => h9) rfl dX4_touch_8 ?_
  refine lv_aload_n hx hb dX4_touch_11 rfl (lv_at hl 0 rfl) ?_
  refine va_get (D := (dC, dI)) (ci := 4) (v := .ref abl) (C := RX4) (T := TX4) (N := 10) hx hb hts hi4 hown hK hP 0 rfl rfl 2 (by decide) f17 (fun _ h9 => h9) rfl dX4_touch_12 ?_
  refine lv_iload_n hx hb dX4_touch_15 rfl (lv_at hl 1 rfl) ?_
  refine va_aldq hx hb hK hP 1 0 rfl rfl (vp_in_nI (show a < 16 by omega) (by omega)) dX4_touch_16 ?_
  rw [show (nI a).toNatClampNeg = a from nI_clamp (show a < 2 ^ 31 by omega)]
  rw [show (fbl a) = some bk from hh]
  refine lv_aload_n hx hb dX4_touch_17 rfl (lv_at hl 0 rfl) ?_
  refine va_get (D := (dC, dI)) (ci := 4) (v := .ref abl) (C := RX4) (T := TX4) (N := 10) hx hb hts hi4 hown hK hP 0 rfl rfl 2 (by decide) f17 (fun _ h9 => h9) rfl dX4_touch_18 ?_
  refine lv_iload_n hx hb dX4_touch_21 rfl (lv_at hl 2 rfl) ?_
  refine va_aldq hx hb hK hP 1 0 rfl rfl (vp_in_nI (show a < 16 by omega) (by omega)) dX4_touch_22 ?_
  rw [show (nI a).toNatClampNeg = a from nI_clamp (show a < 2 ^ 31 by omega)]
  rw [show (fbl a) = some bk from hh]
  refine kxVi (q0 := 0) (ci := 2) (As := [.ref bk, .ref bk]) (rest := []) (WC := [(mt, .inr (2, [.long mu, .long ml, .long meu, .long mel, .int (bI mbar)])), (bk, .inr (0, [.long kx0, .long ky0, .long kx1, .long ky1, .long kdx, .long kdy]))]) (W2 := (fun (u : Int64 × Int64 × Bool) => [(mt, .inr (2, [.long (wUp kx0 ky0 kx1 ky1 kdx kdy kx0 ky0 kx1 ky1 kdx kdy), .long (wLo kx0 ky0 kx1 ky1 kdx kdy kx0 ky0 kx1 ky1 kdx kdy), .long u.1, .long u.2.1, .int (bI u.2.2)])), (bk, .inr (0, [.long kx0, .long ky0, .long kx1, .long ky1, .long kdx, .long kdy]))])) (WR := [(ob, .inr (4, [.ref ahl, .int (nI nh), .ref abl, .int (nI nb), .ref asr, .ref pb, .ref atr, .int (nI nt), .ref tb, .ref mt])), (abl, .inl (cB, 16, .inr (.inr (.inr (.inr fbl)))))]) (WN := (fun (u : Int64 × Int64 × Bool) => [(ob, .inr (4, [.ref ahl, .int (nI nh), .ref abl, .int (nI nb), .ref asr, .ref pb, .ref atr, .int (nI nt), .ref tb, .ref mt])), (abl, .inl (cB, 16, .inr (.inr (.inr (.inr fbl))))), (mt, .inr (2, [.long (wUp kx0 ky0 kx1 ky1 kdx kdy kx0 ky0 kx1 ky1 kdx kdy), .long (wLo kx0 ky0 kx1 ky1 kdx kdy kx0 ky0 kx1 ky1 kdx kdy), .long u.1, .long u.2.1, .int (bI u.2.2)])), (bk, .inr (0, [.long kx0, .long ky0, .long kx1, .long ky1, .long kdx, .long kdy]))])) (tyC := []) (isC := [2, 3]) (isR := [0, 1]) (isN := [0, 1, 2, 3]) (its := []) ⟨hx, hb, hml, hown, hts⟩ (tX2_wSeek_1 l dC dI mt mu ml meu mel mbar bk kx0 ky0 kx1 ky1 kdx kdy) (cwV 2 hts gX4_touch_X2_seekTouch rfl rfl rfl (by decide +kernel) ⟨Nat.le_of_ble_eq_true rfl, Nat.le_of_ble_eq_true rfl⟩) hP hD hA hS hK rfl (by decide) rfl (by decide) (by decide) (fun _ => rfl) (by decide) rfl rfl rfl rfl rfl hl.1 (Nat.le_of_ble_eq_true rfl) dX4_touch_23 ⟨Nat.le_of_ble_eq_true rfl, Nat.le_of_ble_eq_true rfl⟩ (fun uu H locs hP hD hS => ?_)
  obtain ⟨g1, g2, g3⟩ := uu
  have hP : va_P (dC, dI) vwCl [(ob, .inr (4, [.ref ahl, .int (nI nh), .ref abl, .int (nI nb), .ref asr, .ref pb, .ref atr, .int (nI nt), .ref tb, .ref mt])), (abl, .inl (cB, 16, .inr (.inr (.inr (.inr fbl))))), (mt, .inr (2, [.long (wUp kx0 ky0 kx1 ky1 kdx kdy kx0 ky0 kx1 ky1 kdx kdy), .long (wLo kx0 ky0 kx1 ky1 kdx kdy kx0 ky0 kx1 ky1 kdx kdy), .long g1, .long g2, .int (bI g3)])), (bk, .inr (0, [.long kx0, .long ky0, .long kx1, .long ky1, .long kdx, .long kdy]))] H := hP
  have hD : va_D A [(ob, .inr (4, [.ref ahl, .int (nI nh), .ref abl, .int (nI nb), .ref asr, .ref pb, .ref atr, .int (nI nt), .ref tb, .ref mt])), (abl, .inl (cB, 16, .inr (.inr (.inr (.inr fbl))))), (mt, .inr (2, [.long (wUp kx0 ky0 kx1 ky1 kdx kdy kx0 ky0 kx1 ky1 kdx kdy), .long (wLo kx0 ky0 kx1 ky1 kdx kdy kx0 ky0 kx1 ky1 kdx kdy), .long g1, .long g2, .int (bI g3)])), (bk, .inr (0, [.long kx0, .long ky0, .long kx1, .long ky1, .long kdx, .long kdy]))] := hD
  refine lv_pop hx hb dX4_touch_26 rfl ?_
  refine lv_iload_n hx hb dX4_touch_27 rfl (lv_at hl 3 rfl) ?_
  refine lv_if_ne (tgt := 41) hx hb dX4_touch_28 (by decide) (fun c28 => ?_) (fun c28 => ?_)
  · rw [← nI_0, nI_eq (by omega) (by omega)] at c28
    refine lv_aload_n hx hb dX4_touch_41 rfl (lv_at hl 0 rfl) ?_
    refine va_get (D := (dC, dI)) (ci := 4) (v := .ref mt) (C := RX4) (T := TX4) (N := 10) hx hb hts hi4 hown hK hP 0 rfl rfl 9 (by decide) f42 (fun _ h9 => h9) rfl dX4_touch_42 ?_
    refine va_get (D := (dC, dI)) (ci := 2) (v := .long (wLo kx0 ky0 kx1 ky1 kdx kdy kx0 ky0 kx1 ky1 kdx kdy)) (C := RX2) (T := TX2) (N := 5) hx hb hts hi2 hown hK hP 2 rfl rfl 1 (by decide) f131 (fun _ h9 => h9) rfl dX4_touch_45 ?_
    exact kXl (u := (g1, g2, g3)) hx hb hr hlocks hP hK hD hS dX4_touch_48 rfl
  · skip
    exact absurd c28 (by decide)

set_option maxHeartbeats 4000000 in
set_option maxRecDepth 100000 in
theorem tX4_touch_21 (l : Launch) (dC : Nat → ClassId) (dI : Nat → Nat → Nat) (cB : ClassId) (ob ahl nh abl nb asr pb atr nt tb mt : Nat) (fbl : Nat → Option Nat) (bk : Nat) (kx0 ky0 kx1 ky1 kdx kdy : Int64) (bl : Nat) (lx0 ly0 lx1 ly1 ldx ldy : Int64) (mu ml meu mel : Int64) (mbar : Bool) (a b : Nat) (ha : a < nb) (hb_ : b < nb) (hn : nb ≤ 16) (hh : fbl a = some bk) (hh2 : fbl b = some bl) : XMl l yX4_touch wsX4_touch { frames := 4, cells := 0, slots := 0, locals := 101 } [.ref ob, .int (nI a), .int (nI b), .int (nI 1)] (dC, dI) [(ob, .inr (4, [.ref ahl, .int (nI nh), .ref abl, .int (nI nb), .ref asr, .ref pb, .ref atr, .int (nI nt), .ref tb, .ref mt])), (abl, .inl (cB, 16, .inr (.inr (.inr (.inr fbl))))), (mt, .inr (2, [.long mu, .long ml, .long meu, .long mel, .int (bI mbar)])), (bk, .inr (0, [.long kx0, .long ky0, .long kx1, .long ky1, .long kdx, .long kdy])), (bl, .inr (0, [.long lx0, .long ly0, .long lx1, .long ly1, .long ldx, .long ldy]))] (fun (u : Int64 × Int64 × Bool) => [(ob, .inr (4, [.ref ahl, .int (nI nh), .ref abl, .int (nI nb), .ref asr, .ref pb, .ref atr, .int (nI nt), .ref tb, .ref mt])), (abl, .inl (cB, 16, .inr (.inr (.inr (.inr fbl))))), (mt, .inr (2, [.long (wUp kx0 ky0 kx1 ky1 kdx kdy lx0 ly0 lx1 ly1 ldx ldy), .long (wLo kx0 ky0 kx1 ky1 kdx kdy lx0 ly0 lx1 ly1 ldx ldy), .long u.1, .long u.2.1, .int (bI u.2.2)])), (bk, .inr (0, [.long kx0, .long ky0, .long kx1, .long ky1, .long kdx, .long kdy])), (bl, .inr (0, [.long lx0, .long ly0, .long lx1, .long ly1, .long ldx, .long ldy]))]) [(cB, .object "SweptBoxes$Block")] (wLo kx0 ky0 kx1 ky1 kdx kdy lx0 ly0 lx1 ly1 ldx ldy) := by
  intro sz
  refine kOf (cc := cX4_touch) (maxL := 4) (ret := (some .long)) (by decide) rfl (Nat.le_of_ble_eq_true rfl) ?_
  intro p e s m below meth c hx hb hr hml hts hown hlocks hB ls hl
  obtain ⟨hsz, hP, hK, hD0⟩ := hB
  subst hsz
  have hD := hD0.self (sz := s.heap.size)
  generalize hAe : va_A [(ob, .inr (4, [.ref ahl, .int (nI nh), .ref abl, .int (nI nb), .ref asr, .ref pb, .ref atr, .int (nI nt), .ref tb, .ref mt])), (abl, .inl (cB, 16, .inr (.inr (.inr (.inr fbl))))), (mt, .inr (2, [.long mu, .long ml, .long meu, .long mel, .int (bI mbar)])), (bk, .inr (0, [.long kx0, .long ky0, .long kx1, .long ky1, .long kdx, .long kdy])), (bl, .inr (0, [.long lx0, .long ly0, .long lx1, .long ly1, .long ldx, .long ldy]))] s.heap.size = A at hD ⊢
  have hA : ∀ q : Nat, s.heap.size ≤ q → A q := fun q h => by rw [← hAe]; exact Or.inr h
  have hS : va_S A s.heap s.heap [] := va_S.rf
  have hl : lv_has ls 4 [(0, .ref ob), (1, .int (nI a)), (2, .int (nI b)), (3, .int (nI 1))] := hl
  have hi2 : ∀ w ∈ u_ws RX2 TX2 5, w ∈ wsX4_touch := by decide +kernel
  have hi4 : ∀ w ∈ u_ws RX4 TX4 10, w ∈ wsX4_touch := by decide +kernel
  have f17 := hts (.fieldLink RX4 17 "SweptBoxes" "blocks" "[LSweptBoxes$Block;") (by decide +kernel)
  have f42 := hts (.fieldLink RX4 42 "SweptBoxes" "meeting" "LSweptBoxes$Meeting;") (by decide +kernel)
  have f131 := hts (.fieldLink RX4 131 "SweptBoxes$Meeting" "lower" "J") (by decide +kernel)
  refine lv_aload_n hx hb dX4_touch_0 rfl (lv_at hl 0 rfl) ?_
  refine lv_iload_n hx hb dX4_touch_1 rfl (lv_at hl 1 rfl) ?_
  refine lv_iload_n hx hb dX4_touch_2 rfl (lv_at hl 2 rfl) ?_
  refine lv_iload_n hx hb dX4_touch_3 rfl (lv_at hl 3 rfl) ?_
  refine kmVv (q0 := 0) (ci := 4) (As := [.int (nI a), .int (nI b), .int (nI 1)]) (rest := []) (WC := [(ob, .inr (4, [.ref ahl, .int (nI nh), .ref abl, .int (nI nb), .ref asr, .ref pb, .ref atr, .int (nI nt), .ref tb, .ref mt]))]) (W2 := [(ob, .inr (4, [.ref ahl, .int (nI nh), .ref abl, .int (nI nb), .ref asr, .ref pb, .ref atr, .int (nI nt), .ref tb, .ref mt]))]) (WR := [(abl, .inl (cB, 16, .inr (.inr (.inr (.inr fbl))))), (mt, .inr (2, [.long mu, .long ml, .long meu, .long mel, .int (bI mbar)])), (bk, .inr (0, [.long kx0, .long ky0, .long kx1, .long ky1, .long kdx, .long kdy])), (bl, .inr (0, [.long lx0, .long ly0, .long lx1, .long ly1, .long ldx, .long ldy]))]) (WN := [(ob, .inr (4, [.ref ahl, .int (nI nh), .ref abl, .int (nI nb), .ref asr, .ref pb, .ref atr, .int (nI nt), .ref tb, .ref mt])), (abl, .inl (cB, 16, .inr (.inr (.inr (.inr fbl))))), (mt, .inr (2, [.long mu, .long ml, .long meu, .long mel, .int (bI mbar)])), (bk, .inr (0, [.long kx0, .long ky0, .long kx1, .long ky1, .long kdx, .long kdy])), (bl, .inr (0, [.long lx0, .long ly0, .long lx1, .long ly1, .long ldx, .long ldy]))]) (tyC := []) (isC := [0]) (isR := [1, 2, 3, 4]) (isN := [4, 0, 1, 2, 3]) (its := []) ⟨hx, hb, hml, hown, hts⟩ (tX4_needMeeting_o l dC dI ob ahl nh abl nb asr pb atr nt tb mt a b 1 (by omega) (by omega) (by omega) (by omega)) (cwV 3 hts gX4_touch_X4_needMeeting rfl rfl rfl (by decide +kernel) ⟨Nat.le_of_ble_eq_true rfl, Nat.le_of_ble_eq_true rfl⟩) hP hD hA hS hK rfl (by decide) rfl (by decide) (by decide) rfl (by decide) rfl rfl rfl rfl rfl hl.1 (Nat.le_of_ble_eq_true rfl) dX4_touch_4 ⟨Nat.le_of_ble_eq_true rfl, Nat.le_of_ble_eq_true rfl⟩ (fun H locs hP hD hS => ?_)
  refine lv_aload_n hx hb dX4_touch_7 rfl (lv_at hl 0 rfl) ?_
  refine va_get (D := (dC, dI)) (ci := 4) (v := .ref mt) (C := RX4) (T := TX4) (N := 10) hx hb hts hi4 hown hK hP 0 rfl rfl 9 (by decide) f42 (fun _ h9 => h9) rfl dX4_touch_8 ?_
  refine lv_aload_n hx hb dX4_touch_11 rfl (lv_at hl 0 rfl) ?_
  refine va_get (D := (dC, dI)) (ci := 4) (v := .ref abl) (C := RX4) (T := TX4) (N := 10) hx hb hts hi4 hown hK hP 0 rfl rfl 2 (by decide) f17 (fun _ h9 => h9) rfl dX4_touch_12 ?_
  refine lv_iload_n hx hb dX4_touch_15 rfl (lv_at hl 1 rfl) ?_
  refine va_aldq hx hb hK hP 1 0 rfl rfl (vp_in_nI (show a < 16 by omega) (by omega)) dX4_touch_16 ?_
  rw [show (nI a).toNatClampNeg = a from nI_clamp (show a < 2 ^ 31 by omega)]
  rw [show (fbl a) = some bk from hh]
  refine lv_aload_n hx hb dX4_touch_17 rfl (lv_at hl 0 rfl) ?_
  refine va_get (D := (dC, dI)) (ci := 4) (v := .ref abl) (C := RX4) (T := TX4) (N := 10) hx hb hts hi4 hown hK hP 0 rfl rfl 2 (by decide) f17 (fun _ h9 => h9) rfl dX4_touch_18 ?_
  refine lv_iload_n hx hb dX4_touch_21 rfl (lv_at hl 2 rfl) ?_
  refine va_aldq hx hb hK hP 1 0 rfl rfl (vp_in_nI (show b < 16 by omega) (by omega)) dX4_touch_22 ?_
  rw [show (nI b).toNatClampNeg = b from nI_clamp (show b < 2 ^ 31 by omega)]
  rw [show (fbl b) = some bl from hh2]
  refine kxVi (q0 := 0) (ci := 2) (As := [.ref bk, .ref bl]) (rest := []) (WC := [(mt, .inr (2, [.long mu, .long ml, .long meu, .long mel, .int (bI mbar)])), (bk, .inr (0, [.long kx0, .long ky0, .long kx1, .long ky1, .long kdx, .long kdy])), (bl, .inr (0, [.long lx0, .long ly0, .long lx1, .long ly1, .long ldx, .long ldy]))]) (W2 := (fun (u : Int64 × Int64 × Bool) => [(mt, .inr (2, [.long (wUp kx0 ky0 kx1 ky1 kdx kdy lx0 ly0 lx1 ly1 ldx ldy), .long (wLo kx0 ky0 kx1 ky1 kdx kdy lx0 ly0 lx1 ly1 ldx ldy), .long u.1, .long u.2.1, .int (bI u.2.2)])), (bk, .inr (0, [.long kx0, .long ky0, .long kx1, .long ky1, .long kdx, .long kdy])), (bl, .inr (0, [.long lx0, .long ly0, .long lx1, .long ly1, .long ldx, .long ldy]))])) (WR := [(ob, .inr (4, [.ref ahl, .int (nI nh), .ref abl, .int (nI nb), .ref asr, .ref pb, .ref atr, .int (nI nt), .ref tb, .ref mt])), (abl, .inl (cB, 16, .inr (.inr (.inr (.inr fbl)))))]) (WN := (fun (u : Int64 × Int64 × Bool) => [(ob, .inr (4, [.ref ahl, .int (nI nh), .ref abl, .int (nI nb), .ref asr, .ref pb, .ref atr, .int (nI nt), .ref tb, .ref mt])), (abl, .inl (cB, 16, .inr (.inr (.inr (.inr fbl))))), (mt, .inr (2, [.long (wUp kx0 ky0 kx1 ky1 kdx kdy lx0 ly0 lx1 ly1 ldx ldy), .long (wLo kx0 ky0 kx1 ky1 kdx kdy lx0 ly0 lx1 ly1 ldx ldy), .long u.1, .long u.2.1, .int (bI u.2.2)])), (bk, .inr (0, [.long kx0, .long ky0, .long kx1, .long ky1, .long kdx, .long kdy])), (bl, .inr (0, [.long lx0, .long ly0, .long lx1, .long ly1, .long ldx, .long ldy]))])) (tyC := []) (isC := [2, 3, 4]) (isR := [0, 1]) (isN := [0, 1, 2, 3, 4]) (its := []) ⟨hx, hb, hml, hown, hts⟩ (tX2_wSeek l dC dI mt mu ml meu mel mbar bk kx0 ky0 kx1 ky1 kdx kdy bl lx0 ly0 lx1 ly1 ldx ldy) (cwV 2 hts gX4_touch_X2_seekTouch rfl rfl rfl (by decide +kernel) ⟨Nat.le_of_ble_eq_true rfl, Nat.le_of_ble_eq_true rfl⟩) hP hD hA hS hK rfl (by decide) rfl (by decide) (by decide) (fun _ => rfl) (by decide) rfl rfl rfl rfl rfl hl.1 (Nat.le_of_ble_eq_true rfl) dX4_touch_23 ⟨Nat.le_of_ble_eq_true rfl, Nat.le_of_ble_eq_true rfl⟩ (fun uu H locs hP hD hS => ?_)
  obtain ⟨g1, g2, g3⟩ := uu
  have hP : va_P (dC, dI) vwCl [(ob, .inr (4, [.ref ahl, .int (nI nh), .ref abl, .int (nI nb), .ref asr, .ref pb, .ref atr, .int (nI nt), .ref tb, .ref mt])), (abl, .inl (cB, 16, .inr (.inr (.inr (.inr fbl))))), (mt, .inr (2, [.long (wUp kx0 ky0 kx1 ky1 kdx kdy lx0 ly0 lx1 ly1 ldx ldy), .long (wLo kx0 ky0 kx1 ky1 kdx kdy lx0 ly0 lx1 ly1 ldx ldy), .long g1, .long g2, .int (bI g3)])), (bk, .inr (0, [.long kx0, .long ky0, .long kx1, .long ky1, .long kdx, .long kdy])), (bl, .inr (0, [.long lx0, .long ly0, .long lx1, .long ly1, .long ldx, .long ldy]))] H := hP
  have hD : va_D A [(ob, .inr (4, [.ref ahl, .int (nI nh), .ref abl, .int (nI nb), .ref asr, .ref pb, .ref atr, .int (nI nt), .ref tb, .ref mt])), (abl, .inl (cB, 16, .inr (.inr (.inr (.inr fbl))))), (mt, .inr (2, [.long (wUp kx0 ky0 kx1 ky1 kdx kdy lx0 ly0 lx1 ly1 ldx ldy), .long (wLo kx0 ky0 kx1 ky1 kdx kdy lx0 ly0 lx1 ly1 ldx ldy), .long g1, .long g2, .int (bI g3)])), (bk, .inr (0, [.long kx0, .long ky0, .long kx1, .long ky1, .long kdx, .long kdy])), (bl, .inr (0, [.long lx0, .long ly0, .long lx1, .long ly1, .long ldx, .long ldy]))] := hD
  refine lv_pop hx hb dX4_touch_26 rfl ?_
  refine lv_iload_n hx hb dX4_touch_27 rfl (lv_at hl 3 rfl) ?_
  refine lv_if_ne (tgt := 41) hx hb dX4_touch_28 (by decide) (fun c28 => ?_) (fun c28 => ?_)
  · rw [← nI_0, nI_eq (by omega) (by omega)] at c28
    refine lv_aload_n hx hb dX4_touch_41 rfl (lv_at hl 0 rfl) ?_
    refine va_get (D := (dC, dI)) (ci := 4) (v := .ref mt) (C := RX4) (T := TX4) (N := 10) hx hb hts hi4 hown hK hP 0 rfl rfl 9 (by decide) f42 (fun _ h9 => h9) rfl dX4_touch_42 ?_
    refine va_get (D := (dC, dI)) (ci := 2) (v := .long (wLo kx0 ky0 kx1 ky1 kdx kdy lx0 ly0 lx1 ly1 ldx ldy)) (C := RX2) (T := TX2) (N := 5) hx hb hts hi2 hown hK hP 2 rfl rfl 1 (by decide) f131 (fun _ h9 => h9) rfl dX4_touch_45 ?_
    exact kXl (u := (g1, g2, g3)) hx hb hr hlocks hP hK hD hS dX4_touch_48 rfl
  · skip
    exact absurd c28 (by decide)

set_option maxHeartbeats 4000000 in
set_option maxRecDepth 100000 in
theorem tX4_overlap_10 (l : Launch) (dC : Nat → ClassId) (dI : Nat → Nat → Nat) (cB : ClassId) (ob ahl nh abl nb asr pb atr nt tb mt : Nat) (fbl : Nat → Option Nat) (bk : Nat) (kx0 ky0 kx1 ky1 kdx kdy : Int64) (mu ml meu mel : Int64) (mbar : Bool) (a : Nat) (ha : a < nb) (hn : nb ≤ 16) (hh : fbl a = some bk) : XMl l yX4_overlap wsX4_overlap { frames := 4, cells := 0, slots := 0, locals := 101 } [.ref ob, .int (nI a), .int (nI a), .int (nI 0)] (dC, dI) [(ob, .inr (4, [.ref ahl, .int (nI nh), .ref abl, .int (nI nb), .ref asr, .ref pb, .ref atr, .int (nI nt), .ref tb, .ref mt])), (abl, .inl (cB, 16, .inr (.inr (.inr (.inr fbl))))), (mt, .inr (2, [.long mu, .long ml, .long meu, .long mel, .int (bI mbar)])), (bk, .inr (0, [.long kx0, .long ky0, .long kx1, .long ky1, .long kdx, .long kdy]))] (fun (u : Int64 × Int64 × Bool) => [(ob, .inr (4, [.ref ahl, .int (nI nh), .ref abl, .int (nI nb), .ref asr, .ref pb, .ref atr, .int (nI nt), .ref tb, .ref mt])), (abl, .inl (cB, 16, .inr (.inr (.inr (.inr fbl))))), (mt, .inr (2, [.long (oUp kx0 ky0 kx1 ky1 kdx kdy kx0 ky0 kx1 ky1 kdx kdy), .long (oLo kx0 ky0 kx1 ky1 kdx kdy kx0 ky0 kx1 ky1 kdx kdy), .long u.1, .long u.2.1, .int (bI u.2.2)])), (bk, .inr (0, [.long kx0, .long ky0, .long kx1, .long ky1, .long kdx, .long kdy]))]) [(cB, .object "SweptBoxes$Block")] (oUp kx0 ky0 kx1 ky1 kdx kdy kx0 ky0 kx1 ky1 kdx kdy) := by
  intro sz
  refine kOf (cc := cX4_overlap) (maxL := 4) (ret := (some .long)) (by decide) rfl (Nat.le_of_ble_eq_true rfl) ?_
  intro p e s m below meth c hx hb hr hml hts hown hlocks hB ls hl
  obtain ⟨hsz, hP, hK, hD0⟩ := hB
  subst hsz
  have hD := hD0.self (sz := s.heap.size)
  generalize hAe : va_A [(ob, .inr (4, [.ref ahl, .int (nI nh), .ref abl, .int (nI nb), .ref asr, .ref pb, .ref atr, .int (nI nt), .ref tb, .ref mt])), (abl, .inl (cB, 16, .inr (.inr (.inr (.inr fbl))))), (mt, .inr (2, [.long mu, .long ml, .long meu, .long mel, .int (bI mbar)])), (bk, .inr (0, [.long kx0, .long ky0, .long kx1, .long ky1, .long kdx, .long kdy]))] s.heap.size = A at hD ⊢
  have hA : ∀ q : Nat, s.heap.size ≤ q → A q := fun q h => by rw [← hAe]; exact Or.inr h
  have hS : va_S A s.heap s.heap [] := va_S.rf
  have hl : lv_has ls 4 [(0, .ref ob), (1, .int (nI a)), (2, .int (nI a)), (3, .int (nI 0))] := hl
  have hi2 : ∀ w ∈ u_ws RX2 TX2 5, w ∈ wsX4_overlap := by decide +kernel
  have hi4 : ∀ w ∈ u_ws RX4 TX4 10, w ∈ wsX4_overlap := by decide +kernel
  have f17 := hts (.fieldLink RX4 17 "SweptBoxes" "blocks" "[LSweptBoxes$Block;") (by decide +kernel)
  have f42 := hts (.fieldLink RX4 42 "SweptBoxes" "meeting" "LSweptBoxes$Meeting;") (by decide +kernel)
  have f128 := hts (.fieldLink RX4 128 "SweptBoxes$Meeting" "upper" "J") (by decide +kernel)
  refine lv_aload_n hx hb dX4_overlap_0 rfl (lv_at hl 0 rfl) ?_
  refine lv_iload_n hx hb dX4_overlap_1 rfl (lv_at hl 1 rfl) ?_
  refine lv_iload_n hx hb dX4_overlap_2 rfl (lv_at hl 2 rfl) ?_
  refine lv_iload_n hx hb dX4_overlap_3 rfl (lv_at hl 3 rfl) ?_
  refine kmVv (q0 := 0) (ci := 4) (As := [.int (nI a), .int (nI a), .int (nI 0)]) (rest := []) (WC := [(ob, .inr (4, [.ref ahl, .int (nI nh), .ref abl, .int (nI nb), .ref asr, .ref pb, .ref atr, .int (nI nt), .ref tb, .ref mt]))]) (W2 := [(ob, .inr (4, [.ref ahl, .int (nI nh), .ref abl, .int (nI nb), .ref asr, .ref pb, .ref atr, .int (nI nt), .ref tb, .ref mt]))]) (WR := [(abl, .inl (cB, 16, .inr (.inr (.inr (.inr fbl))))), (mt, .inr (2, [.long mu, .long ml, .long meu, .long mel, .int (bI mbar)])), (bk, .inr (0, [.long kx0, .long ky0, .long kx1, .long ky1, .long kdx, .long kdy]))]) (WN := [(ob, .inr (4, [.ref ahl, .int (nI nh), .ref abl, .int (nI nb), .ref asr, .ref pb, .ref atr, .int (nI nt), .ref tb, .ref mt])), (abl, .inl (cB, 16, .inr (.inr (.inr (.inr fbl))))), (mt, .inr (2, [.long mu, .long ml, .long meu, .long mel, .int (bI mbar)])), (bk, .inr (0, [.long kx0, .long ky0, .long kx1, .long ky1, .long kdx, .long kdy]))]) (tyC := []) (isC := [0]) (isR := [1, 2, 3]) (isN := [3, 0, 1, 2]) (its := []) ⟨hx, hb, hml, hown, hts⟩ (tX4_needMeeting_o l dC dI ob ahl nh abl nb asr pb atr nt tb mt a a 0 (by omega) (by omega) (by omega) (by omega)) (cwV 3 hts gX4_overlap_X4_needMeeting rfl rfl rfl (by decide +kernel) ⟨Nat.le_of_ble_eq_true rfl, Nat.le_of_ble_eq_true rfl⟩) hP hD hA hS hK rfl (by decide) rfl (by decide) (by decide) rfl (by decide) rfl rfl rfl rfl rfl hl.1 (Nat.le_of_ble_eq_true rfl) dX4_overlap_4 ⟨Nat.le_of_ble_eq_true rfl, Nat.le_of_ble_eq_true rfl⟩ (fun H locs hP hD hS => ?_)
  refine lv_aload_n hx hb dX4_overlap_7 rfl (lv_at hl 0 rfl) ?_
  refine va_get (D := (dC, dI)) (ci := 4) (v := .ref mt) (C := RX4) (T := TX4) (N := 10) hx hb hts hi4 hown hK hP 0 rfl rfl 9 (by decide) f42 (fun _ h9 => h9) rfl dX4_overlap_8 ?_
  refine lv_aload_n hx hb dX4_overlap_11 rfl (lv_at hl 0 rfl) ?_
  refine va_get (D := (dC, dI)) (ci := 4) (v := .ref abl) (C := RX4) (T := TX4) (N := 10) hx hb hts hi4 hown hK hP 0 rfl rfl 2 (by decide) f17 (fun _ h9 => h9) rfl dX4_overlap_12 ?_
  refine lv_iload_n hx hb dX4_overlap_15 rfl (lv_at hl 1 rfl) ?_
  refine va_aldq hx hb hK hP 1 0 rfl rfl (vp_in_nI (show a < 16 by omega) (by omega)) dX4_overlap_16 ?_
  rw [show (nI a).toNatClampNeg = a from nI_clamp (show a < 2 ^ 31 by omega)]
  rw [show (fbl a) = some bk from hh]
  refine lv_aload_n hx hb dX4_overlap_17 rfl (lv_at hl 0 rfl) ?_
  refine va_get (D := (dC, dI)) (ci := 4) (v := .ref abl) (C := RX4) (T := TX4) (N := 10) hx hb hts hi4 hown hK hP 0 rfl rfl 2 (by decide) f17 (fun _ h9 => h9) rfl dX4_overlap_18 ?_
  refine lv_iload_n hx hb dX4_overlap_21 rfl (lv_at hl 2 rfl) ?_
  refine va_aldq hx hb hK hP 1 0 rfl rfl (vp_in_nI (show a < 16 by omega) (by omega)) dX4_overlap_22 ?_
  rw [show (nI a).toNatClampNeg = a from nI_clamp (show a < 2 ^ 31 by omega)]
  rw [show (fbl a) = some bk from hh]
  refine kxVi (q0 := 0) (ci := 2) (As := [.ref bk, .ref bk]) (rest := []) (WC := [(mt, .inr (2, [.long mu, .long ml, .long meu, .long mel, .int (bI mbar)])), (bk, .inr (0, [.long kx0, .long ky0, .long kx1, .long ky1, .long kdx, .long kdy]))]) (W2 := (fun (u : Int64 × Int64 × Bool) => [(mt, .inr (2, [.long (oUp kx0 ky0 kx1 ky1 kdx kdy kx0 ky0 kx1 ky1 kdx kdy), .long (oLo kx0 ky0 kx1 ky1 kdx kdy kx0 ky0 kx1 ky1 kdx kdy), .long u.1, .long u.2.1, .int (bI u.2.2)])), (bk, .inr (0, [.long kx0, .long ky0, .long kx1, .long ky1, .long kdx, .long kdy]))])) (WR := [(ob, .inr (4, [.ref ahl, .int (nI nh), .ref abl, .int (nI nb), .ref asr, .ref pb, .ref atr, .int (nI nt), .ref tb, .ref mt])), (abl, .inl (cB, 16, .inr (.inr (.inr (.inr fbl)))))]) (WN := (fun (u : Int64 × Int64 × Bool) => [(ob, .inr (4, [.ref ahl, .int (nI nh), .ref abl, .int (nI nb), .ref asr, .ref pb, .ref atr, .int (nI nt), .ref tb, .ref mt])), (abl, .inl (cB, 16, .inr (.inr (.inr (.inr fbl))))), (mt, .inr (2, [.long (oUp kx0 ky0 kx1 ky1 kdx kdy kx0 ky0 kx1 ky1 kdx kdy), .long (oLo kx0 ky0 kx1 ky1 kdx kdy kx0 ky0 kx1 ky1 kdx kdy), .long u.1, .long u.2.1, .int (bI u.2.2)])), (bk, .inr (0, [.long kx0, .long ky0, .long kx1, .long ky1, .long kdx, .long kdy]))])) (tyC := []) (isC := [2, 3]) (isR := [0, 1]) (isN := [0, 1, 2, 3]) (its := []) ⟨hx, hb, hml, hown, hts⟩ (tX2_oSeek_1 l dC dI mt mu ml meu mel mbar bk kx0 ky0 kx1 ky1 kdx kdy) (cwV 2 hts gX4_overlap_X2_seekOverlap rfl rfl rfl (by decide +kernel) ⟨Nat.le_of_ble_eq_true rfl, Nat.le_of_ble_eq_true rfl⟩) hP hD hA hS hK rfl (by decide) rfl (by decide) (by decide) (fun _ => rfl) (by decide) rfl rfl rfl rfl rfl hl.1 (Nat.le_of_ble_eq_true rfl) dX4_overlap_23 ⟨Nat.le_of_ble_eq_true rfl, Nat.le_of_ble_eq_true rfl⟩ (fun uu H locs hP hD hS => ?_)
  obtain ⟨g1, g2, g3⟩ := uu
  have hP : va_P (dC, dI) vwCl [(ob, .inr (4, [.ref ahl, .int (nI nh), .ref abl, .int (nI nb), .ref asr, .ref pb, .ref atr, .int (nI nt), .ref tb, .ref mt])), (abl, .inl (cB, 16, .inr (.inr (.inr (.inr fbl))))), (mt, .inr (2, [.long (oUp kx0 ky0 kx1 ky1 kdx kdy kx0 ky0 kx1 ky1 kdx kdy), .long (oLo kx0 ky0 kx1 ky1 kdx kdy kx0 ky0 kx1 ky1 kdx kdy), .long g1, .long g2, .int (bI g3)])), (bk, .inr (0, [.long kx0, .long ky0, .long kx1, .long ky1, .long kdx, .long kdy]))] H := hP
  have hD : va_D A [(ob, .inr (4, [.ref ahl, .int (nI nh), .ref abl, .int (nI nb), .ref asr, .ref pb, .ref atr, .int (nI nt), .ref tb, .ref mt])), (abl, .inl (cB, 16, .inr (.inr (.inr (.inr fbl))))), (mt, .inr (2, [.long (oUp kx0 ky0 kx1 ky1 kdx kdy kx0 ky0 kx1 ky1 kdx kdy), .long (oLo kx0 ky0 kx1 ky1 kdx kdy kx0 ky0 kx1 ky1 kdx kdy), .long g1, .long g2, .int (bI g3)])), (bk, .inr (0, [.long kx0, .long ky0, .long kx1, .long ky1, .long kdx, .long kdy]))] := hD
  refine lv_pop hx hb dX4_overlap_26 rfl ?_
  refine lv_iload_n hx hb dX4_overlap_27 rfl (lv_at hl 3 rfl) ?_
  refine lv_if_ne (tgt := 41) hx hb dX4_overlap_28 (by decide) (fun c28 => ?_) (fun c28 => ?_)
  · skip
    exact absurd c28 (by decide)
  · rw [← nI_0, nI_eq (by omega) (by omega)] at c28
    refine lv_aload_n hx hb dX4_overlap_31 rfl (lv_at hl 0 rfl) ?_
    refine va_get (D := (dC, dI)) (ci := 4) (v := .ref mt) (C := RX4) (T := TX4) (N := 10) hx hb hts hi4 hown hK hP 0 rfl rfl 9 (by decide) f42 (fun _ h9 => h9) rfl dX4_overlap_32 ?_
    refine va_get (D := (dC, dI)) (ci := 2) (v := .long (oUp kx0 ky0 kx1 ky1 kdx kdy kx0 ky0 kx1 ky1 kdx kdy)) (C := RX2) (T := TX2) (N := 5) hx hb hts hi2 hown hK hP 2 rfl rfl 0 (by decide) f128 (fun _ h9 => h9) rfl dX4_overlap_35 ?_
    refine lv_goto (tgt := 48) hx hb dX4_overlap_38 (by decide) ?_
    exact kXl (u := (g1, g2, g3)) hx hb hr hlocks hP hK hD hS dX4_overlap_48 rfl

set_option maxHeartbeats 4000000 in
set_option maxRecDepth 100000 in
theorem tX4_overlap_20 (l : Launch) (dC : Nat → ClassId) (dI : Nat → Nat → Nat) (cB : ClassId) (ob ahl nh abl nb asr pb atr nt tb mt : Nat) (fbl : Nat → Option Nat) (bk : Nat) (kx0 ky0 kx1 ky1 kdx kdy : Int64) (bl : Nat) (lx0 ly0 lx1 ly1 ldx ldy : Int64) (mu ml meu mel : Int64) (mbar : Bool) (a b : Nat) (ha : a < nb) (hb_ : b < nb) (hn : nb ≤ 16) (hh : fbl a = some bk) (hh2 : fbl b = some bl) : XMl l yX4_overlap wsX4_overlap { frames := 4, cells := 0, slots := 0, locals := 101 } [.ref ob, .int (nI a), .int (nI b), .int (nI 0)] (dC, dI) [(ob, .inr (4, [.ref ahl, .int (nI nh), .ref abl, .int (nI nb), .ref asr, .ref pb, .ref atr, .int (nI nt), .ref tb, .ref mt])), (abl, .inl (cB, 16, .inr (.inr (.inr (.inr fbl))))), (mt, .inr (2, [.long mu, .long ml, .long meu, .long mel, .int (bI mbar)])), (bk, .inr (0, [.long kx0, .long ky0, .long kx1, .long ky1, .long kdx, .long kdy])), (bl, .inr (0, [.long lx0, .long ly0, .long lx1, .long ly1, .long ldx, .long ldy]))] (fun (u : Int64 × Int64 × Bool) => [(ob, .inr (4, [.ref ahl, .int (nI nh), .ref abl, .int (nI nb), .ref asr, .ref pb, .ref atr, .int (nI nt), .ref tb, .ref mt])), (abl, .inl (cB, 16, .inr (.inr (.inr (.inr fbl))))), (mt, .inr (2, [.long (oUp kx0 ky0 kx1 ky1 kdx kdy lx0 ly0 lx1 ly1 ldx ldy), .long (oLo kx0 ky0 kx1 ky1 kdx kdy lx0 ly0 lx1 ly1 ldx ldy), .long u.1, .long u.2.1, .int (bI u.2.2)])), (bk, .inr (0, [.long kx0, .long ky0, .long kx1, .long ky1, .long kdx, .long kdy])), (bl, .inr (0, [.long lx0, .long ly0, .long lx1, .long ly1, .long ldx, .long ldy]))]) [(cB, .object "SweptBoxes$Block")] (oUp kx0 ky0 kx1 ky1 kdx kdy lx0 ly0 lx1 ly1 ldx ldy) := by
  intro sz
  refine kOf (cc := cX4_overlap) (maxL := 4) (ret := (some .long)) (by decide) rfl (Nat.le_of_ble_eq_true rfl) ?_
  intro p e s m below meth c hx hb hr hml hts hown hlocks hB ls hl
  obtain ⟨hsz, hP, hK, hD0⟩ := hB
  subst hsz
  have hD := hD0.self (sz := s.heap.size)
  generalize hAe : va_A [(ob, .inr (4, [.ref ahl, .int (nI nh), .ref abl, .int (nI nb), .ref asr, .ref pb, .ref atr, .int (nI nt), .ref tb, .ref mt])), (abl, .inl (cB, 16, .inr (.inr (.inr (.inr fbl))))), (mt, .inr (2, [.long mu, .long ml, .long meu, .long mel, .int (bI mbar)])), (bk, .inr (0, [.long kx0, .long ky0, .long kx1, .long ky1, .long kdx, .long kdy])), (bl, .inr (0, [.long lx0, .long ly0, .long lx1, .long ly1, .long ldx, .long ldy]))] s.heap.size = A at hD ⊢
  have hA : ∀ q : Nat, s.heap.size ≤ q → A q := fun q h => by rw [← hAe]; exact Or.inr h
  have hS : va_S A s.heap s.heap [] := va_S.rf
  have hl : lv_has ls 4 [(0, .ref ob), (1, .int (nI a)), (2, .int (nI b)), (3, .int (nI 0))] := hl
  have hi2 : ∀ w ∈ u_ws RX2 TX2 5, w ∈ wsX4_overlap := by decide +kernel
  have hi4 : ∀ w ∈ u_ws RX4 TX4 10, w ∈ wsX4_overlap := by decide +kernel
  have f17 := hts (.fieldLink RX4 17 "SweptBoxes" "blocks" "[LSweptBoxes$Block;") (by decide +kernel)
  have f42 := hts (.fieldLink RX4 42 "SweptBoxes" "meeting" "LSweptBoxes$Meeting;") (by decide +kernel)
  have f128 := hts (.fieldLink RX4 128 "SweptBoxes$Meeting" "upper" "J") (by decide +kernel)
  refine lv_aload_n hx hb dX4_overlap_0 rfl (lv_at hl 0 rfl) ?_
  refine lv_iload_n hx hb dX4_overlap_1 rfl (lv_at hl 1 rfl) ?_
  refine lv_iload_n hx hb dX4_overlap_2 rfl (lv_at hl 2 rfl) ?_
  refine lv_iload_n hx hb dX4_overlap_3 rfl (lv_at hl 3 rfl) ?_
  refine kmVv (q0 := 0) (ci := 4) (As := [.int (nI a), .int (nI b), .int (nI 0)]) (rest := []) (WC := [(ob, .inr (4, [.ref ahl, .int (nI nh), .ref abl, .int (nI nb), .ref asr, .ref pb, .ref atr, .int (nI nt), .ref tb, .ref mt]))]) (W2 := [(ob, .inr (4, [.ref ahl, .int (nI nh), .ref abl, .int (nI nb), .ref asr, .ref pb, .ref atr, .int (nI nt), .ref tb, .ref mt]))]) (WR := [(abl, .inl (cB, 16, .inr (.inr (.inr (.inr fbl))))), (mt, .inr (2, [.long mu, .long ml, .long meu, .long mel, .int (bI mbar)])), (bk, .inr (0, [.long kx0, .long ky0, .long kx1, .long ky1, .long kdx, .long kdy])), (bl, .inr (0, [.long lx0, .long ly0, .long lx1, .long ly1, .long ldx, .long ldy]))]) (WN := [(ob, .inr (4, [.ref ahl, .int (nI nh), .ref abl, .int (nI nb), .ref asr, .ref pb, .ref atr, .int (nI nt), .ref tb, .ref mt])), (abl, .inl (cB, 16, .inr (.inr (.inr (.inr fbl))))), (mt, .inr (2, [.long mu, .long ml, .long meu, .long mel, .int (bI mbar)])), (bk, .inr (0, [.long kx0, .long ky0, .long kx1, .long ky1, .long kdx, .long kdy])), (bl, .inr (0, [.long lx0, .long ly0, .long lx1, .long ly1, .long ldx, .long ldy]))]) (tyC := []) (isC := [0]) (isR := [1, 2, 3, 4]) (isN := [4, 0, 1, 2, 3]) (its := []) ⟨hx, hb, hml, hown, hts⟩ (tX4_needMeeting_o l dC dI ob ahl nh abl nb asr pb atr nt tb mt a b 0 (by omega) (by omega) (by omega) (by omega)) (cwV 3 hts gX4_overlap_X4_needMeeting rfl rfl rfl (by decide +kernel) ⟨Nat.le_of_ble_eq_true rfl, Nat.le_of_ble_eq_true rfl⟩) hP hD hA hS hK rfl (by decide) rfl (by decide) (by decide) rfl (by decide) rfl rfl rfl rfl rfl hl.1 (Nat.le_of_ble_eq_true rfl) dX4_overlap_4 ⟨Nat.le_of_ble_eq_true rfl, Nat.le_of_ble_eq_true rfl⟩ (fun H locs hP hD hS => ?_)
  refine lv_aload_n hx hb dX4_overlap_7 rfl (lv_at hl 0 rfl) ?_
  refine va_get (D := (dC, dI)) (ci := 4) (v := .ref mt) (C := RX4) (T := TX4) (N := 10) hx hb hts hi4 hown hK hP 0 rfl rfl 9 (by decide) f42 (fun _ h9 => h9) rfl dX4_overlap_8 ?_
  refine lv_aload_n hx hb dX4_overlap_11 rfl (lv_at hl 0 rfl) ?_
  refine va_get (D := (dC, dI)) (ci := 4) (v := .ref abl) (C := RX4) (T := TX4) (N := 10) hx hb hts hi4 hown hK hP 0 rfl rfl 2 (by decide) f17 (fun _ h9 => h9) rfl dX4_overlap_12 ?_
  refine lv_iload_n hx hb dX4_overlap_15 rfl (lv_at hl 1 rfl) ?_
  refine va_aldq hx hb hK hP 1 0 rfl rfl (vp_in_nI (show a < 16 by omega) (by omega)) dX4_overlap_16 ?_
  rw [show (nI a).toNatClampNeg = a from nI_clamp (show a < 2 ^ 31 by omega)]
  rw [show (fbl a) = some bk from hh]
  refine lv_aload_n hx hb dX4_overlap_17 rfl (lv_at hl 0 rfl) ?_
  refine va_get (D := (dC, dI)) (ci := 4) (v := .ref abl) (C := RX4) (T := TX4) (N := 10) hx hb hts hi4 hown hK hP 0 rfl rfl 2 (by decide) f17 (fun _ h9 => h9) rfl dX4_overlap_18 ?_
  refine lv_iload_n hx hb dX4_overlap_21 rfl (lv_at hl 2 rfl) ?_
  refine va_aldq hx hb hK hP 1 0 rfl rfl (vp_in_nI (show b < 16 by omega) (by omega)) dX4_overlap_22 ?_
  rw [show (nI b).toNatClampNeg = b from nI_clamp (show b < 2 ^ 31 by omega)]
  rw [show (fbl b) = some bl from hh2]
  refine kxVi (q0 := 0) (ci := 2) (As := [.ref bk, .ref bl]) (rest := []) (WC := [(mt, .inr (2, [.long mu, .long ml, .long meu, .long mel, .int (bI mbar)])), (bk, .inr (0, [.long kx0, .long ky0, .long kx1, .long ky1, .long kdx, .long kdy])), (bl, .inr (0, [.long lx0, .long ly0, .long lx1, .long ly1, .long ldx, .long ldy]))]) (W2 := (fun (u : Int64 × Int64 × Bool) => [(mt, .inr (2, [.long (oUp kx0 ky0 kx1 ky1 kdx kdy lx0 ly0 lx1 ly1 ldx ldy), .long (oLo kx0 ky0 kx1 ky1 kdx kdy lx0 ly0 lx1 ly1 ldx ldy), .long u.1, .long u.2.1, .int (bI u.2.2)])), (bk, .inr (0, [.long kx0, .long ky0, .long kx1, .long ky1, .long kdx, .long kdy])), (bl, .inr (0, [.long lx0, .long ly0, .long lx1, .long ly1, .long ldx, .long ldy]))])) (WR := [(ob, .inr (4, [.ref ahl, .int (nI nh), .ref abl, .int (nI nb), .ref asr, .ref pb, .ref atr, .int (nI nt), .ref tb, .ref mt])), (abl, .inl (cB, 16, .inr (.inr (.inr (.inr fbl)))))]) (WN := (fun (u : Int64 × Int64 × Bool) => [(ob, .inr (4, [.ref ahl, .int (nI nh), .ref abl, .int (nI nb), .ref asr, .ref pb, .ref atr, .int (nI nt), .ref tb, .ref mt])), (abl, .inl (cB, 16, .inr (.inr (.inr (.inr fbl))))), (mt, .inr (2, [.long (oUp kx0 ky0 kx1 ky1 kdx kdy lx0 ly0 lx1 ly1 ldx ldy), .long (oLo kx0 ky0 kx1 ky1 kdx kdy lx0 ly0 lx1 ly1 ldx ldy), .long u.1, .long u.2.1, .int (bI u.2.2)])), (bk, .inr (0, [.long kx0, .long ky0, .long kx1, .long ky1, .long kdx, .long kdy])), (bl, .inr (0, [.long lx0, .long ly0, .long lx1, .long ly1, .long ldx, .long ldy]))])) (tyC := []) (isC := [2, 3, 4]) (isR := [0, 1]) (isN := [0, 1, 2, 3, 4]) (its := []) ⟨hx, hb, hml, hown, hts⟩ (tX2_oSeek l dC dI mt mu ml meu mel mbar bk kx0 ky0 kx1 ky1 kdx kdy bl lx0 ly0 lx1 ly1 ldx ldy) (cwV 2 hts gX4_overlap_X2_seekOverlap rfl rfl rfl (by decide +kernel) ⟨Nat.le_of_ble_eq_true rfl, Nat.le_of_ble_eq_true rfl⟩) hP hD hA hS hK rfl (by decide) rfl (by decide) (by decide) (fun _ => rfl) (by decide) rfl rfl rfl rfl rfl hl.1 (Nat.le_of_ble_eq_true rfl) dX4_overlap_23 ⟨Nat.le_of_ble_eq_true rfl, Nat.le_of_ble_eq_true rfl⟩ (fun uu H locs hP hD hS => ?_)
  obtain ⟨g1, g2, g3⟩ := uu
  have hP : va_P (dC, dI) vwCl [(ob, .inr (4, [.ref ahl, .int (nI nh), .ref abl, .int (nI nb), .ref asr, .ref pb, .ref atr, .int (nI nt), .ref tb, .ref mt])), (abl, .inl (cB, 16, .inr (.inr (.inr (.inr fbl))))), (mt, .inr (2, [.long (oUp kx0 ky0 kx1 ky1 kdx kdy lx0 ly0 lx1 ly1 ldx ldy), .long (oLo kx0 ky0 kx1 ky1 kdx kdy lx0 ly0 lx1 ly1 ldx ldy), .long g1, .long g2, .int (bI g3)])), (bk, .inr (0, [.long kx0, .long ky0, .long kx1, .long ky1, .long kdx, .long kdy])), (bl, .inr (0, [.long lx0, .long ly0, .long lx1, .long ly1, .long ldx, .long ldy]))] H := hP
  have hD : va_D A [(ob, .inr (4, [.ref ahl, .int (nI nh), .ref abl, .int (nI nb), .ref asr, .ref pb, .ref atr, .int (nI nt), .ref tb, .ref mt])), (abl, .inl (cB, 16, .inr (.inr (.inr (.inr fbl))))), (mt, .inr (2, [.long (oUp kx0 ky0 kx1 ky1 kdx kdy lx0 ly0 lx1 ly1 ldx ldy), .long (oLo kx0 ky0 kx1 ky1 kdx kdy lx0 ly0 lx1 ly1 ldx ldy), .long g1, .long g2, .int (bI g3)])), (bk, .inr (0, [.long kx0, .long ky0, .long kx1, .long ky1, .long kdx, .long kdy])), (bl, .inr (0, [.long lx0, .long ly0, .long lx1, .long ly1, .long ldx, .long ldy]))] := hD
  refine lv_pop hx hb dX4_overlap_26 rfl ?_
  refine lv_iload_n hx hb dX4_overlap_27 rfl (lv_at hl 3 rfl) ?_
  refine lv_if_ne (tgt := 41) hx hb dX4_overlap_28 (by decide) (fun c28 => ?_) (fun c28 => ?_)
  · skip
    exact absurd c28 (by decide)
  · rw [← nI_0, nI_eq (by omega) (by omega)] at c28
    refine lv_aload_n hx hb dX4_overlap_31 rfl (lv_at hl 0 rfl) ?_
    refine va_get (D := (dC, dI)) (ci := 4) (v := .ref mt) (C := RX4) (T := TX4) (N := 10) hx hb hts hi4 hown hK hP 0 rfl rfl 9 (by decide) f42 (fun _ h9 => h9) rfl dX4_overlap_32 ?_
    refine va_get (D := (dC, dI)) (ci := 2) (v := .long (oUp kx0 ky0 kx1 ky1 kdx kdy lx0 ly0 lx1 ly1 ldx ldy)) (C := RX2) (T := TX2) (N := 5) hx hb hts hi2 hown hK hP 2 rfl rfl 0 (by decide) f128 (fun _ h9 => h9) rfl dX4_overlap_35 ?_
    refine lv_goto (tgt := 48) hx hb dX4_overlap_38 (by decide) ?_
    exact kXl (u := (g1, g2, g3)) hx hb hr hlocks hP hK hD hS dX4_overlap_48 rfl

set_option maxHeartbeats 4000000 in
set_option maxRecDepth 100000 in
theorem tX4_overlap_11 (l : Launch) (dC : Nat → ClassId) (dI : Nat → Nat → Nat) (cB : ClassId) (ob ahl nh abl nb asr pb atr nt tb mt : Nat) (fbl : Nat → Option Nat) (bk : Nat) (kx0 ky0 kx1 ky1 kdx kdy : Int64) (mu ml meu mel : Int64) (mbar : Bool) (a : Nat) (ha : a < nb) (hn : nb ≤ 16) (hh : fbl a = some bk) : XMl l yX4_overlap wsX4_overlap { frames := 4, cells := 0, slots := 0, locals := 101 } [.ref ob, .int (nI a), .int (nI a), .int (nI 1)] (dC, dI) [(ob, .inr (4, [.ref ahl, .int (nI nh), .ref abl, .int (nI nb), .ref asr, .ref pb, .ref atr, .int (nI nt), .ref tb, .ref mt])), (abl, .inl (cB, 16, .inr (.inr (.inr (.inr fbl))))), (mt, .inr (2, [.long mu, .long ml, .long meu, .long mel, .int (bI mbar)])), (bk, .inr (0, [.long kx0, .long ky0, .long kx1, .long ky1, .long kdx, .long kdy]))] (fun (u : Int64 × Int64 × Bool) => [(ob, .inr (4, [.ref ahl, .int (nI nh), .ref abl, .int (nI nb), .ref asr, .ref pb, .ref atr, .int (nI nt), .ref tb, .ref mt])), (abl, .inl (cB, 16, .inr (.inr (.inr (.inr fbl))))), (mt, .inr (2, [.long (oUp kx0 ky0 kx1 ky1 kdx kdy kx0 ky0 kx1 ky1 kdx kdy), .long (oLo kx0 ky0 kx1 ky1 kdx kdy kx0 ky0 kx1 ky1 kdx kdy), .long u.1, .long u.2.1, .int (bI u.2.2)])), (bk, .inr (0, [.long kx0, .long ky0, .long kx1, .long ky1, .long kdx, .long kdy]))]) [(cB, .object "SweptBoxes$Block")] (oLo kx0 ky0 kx1 ky1 kdx kdy kx0 ky0 kx1 ky1 kdx kdy) := by
  intro sz
  refine kOf (cc := cX4_overlap) (maxL := 4) (ret := (some .long)) (by decide) rfl (Nat.le_of_ble_eq_true rfl) ?_
  intro p e s m below meth c hx hb hr hml hts hown hlocks hB ls hl
  obtain ⟨hsz, hP, hK, hD0⟩ := hB
  subst hsz
  have hD := hD0.self (sz := s.heap.size)
  generalize hAe : va_A [(ob, .inr (4, [.ref ahl, .int (nI nh), .ref abl, .int (nI nb), .ref asr, .ref pb, .ref atr, .int (nI nt), .ref tb, .ref mt])), (abl, .inl (cB, 16, .inr (.inr (.inr (.inr fbl))))), (mt, .inr (2, [.long mu, .long ml, .long meu, .long mel, .int (bI mbar)])), (bk, .inr (0, [.long kx0, .long ky0, .long kx1, .long ky1, .long kdx, .long kdy]))] s.heap.size = A at hD ⊢
  have hA : ∀ q : Nat, s.heap.size ≤ q → A q := fun q h => by rw [← hAe]; exact Or.inr h
  have hS : va_S A s.heap s.heap [] := va_S.rf
  have hl : lv_has ls 4 [(0, .ref ob), (1, .int (nI a)), (2, .int (nI a)), (3, .int (nI 1))] := hl
  have hi2 : ∀ w ∈ u_ws RX2 TX2 5, w ∈ wsX4_overlap := by decide +kernel
  have hi4 : ∀ w ∈ u_ws RX4 TX4 10, w ∈ wsX4_overlap := by decide +kernel
  have f17 := hts (.fieldLink RX4 17 "SweptBoxes" "blocks" "[LSweptBoxes$Block;") (by decide +kernel)
  have f42 := hts (.fieldLink RX4 42 "SweptBoxes" "meeting" "LSweptBoxes$Meeting;") (by decide +kernel)
  have f131 := hts (.fieldLink RX4 131 "SweptBoxes$Meeting" "lower" "J") (by decide +kernel)
  refine lv_aload_n hx hb dX4_overlap_0 rfl (lv_at hl 0 rfl) ?_
  refine lv_iload_n hx hb dX4_overlap_1 rfl (lv_at hl 1 rfl) ?_
  refine lv_iload_n hx hb dX4_overlap_2 rfl (lv_at hl 2 rfl) ?_
  refine lv_iload_n hx hb dX4_overlap_3 rfl (lv_at hl 3 rfl) ?_
  refine kmVv (q0 := 0) (ci := 4) (As := [.int (nI a), .int (nI a), .int (nI 1)]) (rest := []) (WC := [(ob, .inr (4, [.ref ahl, .int (nI nh), .ref abl, .int (nI nb), .ref asr, .ref pb, .ref atr, .int (nI nt), .ref tb, .ref mt]))]) (W2 := [(ob, .inr (4, [.ref ahl, .int (nI nh), .ref abl, .int (nI nb), .ref asr, .ref pb, .ref atr, .int (nI nt), .ref tb, .ref mt]))]) (WR := [(abl, .inl (cB, 16, .inr (.inr (.inr (.inr fbl))))), (mt, .inr (2, [.long mu, .long ml, .long meu, .long mel, .int (bI mbar)])), (bk, .inr (0, [.long kx0, .long ky0, .long kx1, .long ky1, .long kdx, .long kdy]))]) (WN := [(ob, .inr (4, [.ref ahl, .int (nI nh), .ref abl, .int (nI nb), .ref asr, .ref pb, .ref atr, .int (nI nt), .ref tb, .ref mt])), (abl, .inl (cB, 16, .inr (.inr (.inr (.inr fbl))))), (mt, .inr (2, [.long mu, .long ml, .long meu, .long mel, .int (bI mbar)])), (bk, .inr (0, [.long kx0, .long ky0, .long kx1, .long ky1, .long kdx, .long kdy]))]) (tyC := []) (isC := [0]) (isR := [1, 2, 3]) (isN := [3, 0, 1, 2]) (its := []) ⟨hx, hb, hml, hown, hts⟩ (tX4_needMeeting_o l dC dI ob ahl nh abl nb asr pb atr nt tb mt a a 1 (by omega) (by omega) (by omega) (by omega)) (cwV 3 hts gX4_overlap_X4_needMeeting rfl rfl rfl (by decide +kernel) ⟨Nat.le_of_ble_eq_true rfl, Nat.le_of_ble_eq_true rfl⟩) hP hD hA hS hK rfl (by decide) rfl (by decide) (by decide) rfl (by decide) rfl rfl rfl rfl rfl hl.1 (Nat.le_of_ble_eq_true rfl) dX4_overlap_4 ⟨Nat.le_of_ble_eq_true rfl, Nat.le_of_ble_eq_true rfl⟩ (fun H locs hP hD hS => ?_)
  refine lv_aload_n hx hb dX4_overlap_7 rfl (lv_at hl 0 rfl) ?_
  refine va_get (D := (dC, dI)) (ci := 4) (v := .ref mt) (C := RX4) (T := TX4) (N := 10) hx hb hts hi4 hown hK hP 0 rfl rfl 9 (by decide) f42 (fun _ h9 => h9) rfl dX4_overlap_8 ?_
  refine lv_aload_n hx hb dX4_overlap_11 rfl (lv_at hl 0 rfl) ?_
  refine va_get (D := (dC, dI)) (ci := 4) (v := .ref abl) (C := RX4) (T := TX4) (N := 10) hx hb hts hi4 hown hK hP 0 rfl rfl 2 (by decide) f17 (fun _ h9 => h9) rfl dX4_overlap_12 ?_
  refine lv_iload_n hx hb dX4_overlap_15 rfl (lv_at hl 1 rfl) ?_
  refine va_aldq hx hb hK hP 1 0 rfl rfl (vp_in_nI (show a < 16 by omega) (by omega)) dX4_overlap_16 ?_
  rw [show (nI a).toNatClampNeg = a from nI_clamp (show a < 2 ^ 31 by omega)]
  rw [show (fbl a) = some bk from hh]
  refine lv_aload_n hx hb dX4_overlap_17 rfl (lv_at hl 0 rfl) ?_
  refine va_get (D := (dC, dI)) (ci := 4) (v := .ref abl) (C := RX4) (T := TX4) (N := 10) hx hb hts hi4 hown hK hP 0 rfl rfl 2 (by decide) f17 (fun _ h9 => h9) rfl dX4_overlap_18 ?_
  refine lv_iload_n hx hb dX4_overlap_21 rfl (lv_at hl 2 rfl) ?_
  refine va_aldq hx hb hK hP 1 0 rfl rfl (vp_in_nI (show a < 16 by omega) (by omega)) dX4_overlap_22 ?_
  rw [show (nI a).toNatClampNeg = a from nI_clamp (show a < 2 ^ 31 by omega)]
  rw [show (fbl a) = some bk from hh]
  refine kxVi (q0 := 0) (ci := 2) (As := [.ref bk, .ref bk]) (rest := []) (WC := [(mt, .inr (2, [.long mu, .long ml, .long meu, .long mel, .int (bI mbar)])), (bk, .inr (0, [.long kx0, .long ky0, .long kx1, .long ky1, .long kdx, .long kdy]))]) (W2 := (fun (u : Int64 × Int64 × Bool) => [(mt, .inr (2, [.long (oUp kx0 ky0 kx1 ky1 kdx kdy kx0 ky0 kx1 ky1 kdx kdy), .long (oLo kx0 ky0 kx1 ky1 kdx kdy kx0 ky0 kx1 ky1 kdx kdy), .long u.1, .long u.2.1, .int (bI u.2.2)])), (bk, .inr (0, [.long kx0, .long ky0, .long kx1, .long ky1, .long kdx, .long kdy]))])) (WR := [(ob, .inr (4, [.ref ahl, .int (nI nh), .ref abl, .int (nI nb), .ref asr, .ref pb, .ref atr, .int (nI nt), .ref tb, .ref mt])), (abl, .inl (cB, 16, .inr (.inr (.inr (.inr fbl)))))]) (WN := (fun (u : Int64 × Int64 × Bool) => [(ob, .inr (4, [.ref ahl, .int (nI nh), .ref abl, .int (nI nb), .ref asr, .ref pb, .ref atr, .int (nI nt), .ref tb, .ref mt])), (abl, .inl (cB, 16, .inr (.inr (.inr (.inr fbl))))), (mt, .inr (2, [.long (oUp kx0 ky0 kx1 ky1 kdx kdy kx0 ky0 kx1 ky1 kdx kdy), .long (oLo kx0 ky0 kx1 ky1 kdx kdy kx0 ky0 kx1 ky1 kdx kdy), .long u.1, .long u.2.1, .int (bI u.2.2)])), (bk, .inr (0, [.long kx0, .long ky0, .long kx1, .long ky1, .long kdx, .long kdy]))])) (tyC := []) (isC := [2, 3]) (isR := [0, 1]) (isN := [0, 1, 2, 3]) (its := []) ⟨hx, hb, hml, hown, hts⟩ (tX2_oSeek_1 l dC dI mt mu ml meu mel mbar bk kx0 ky0 kx1 ky1 kdx kdy) (cwV 2 hts gX4_overlap_X2_seekOverlap rfl rfl rfl (by decide +kernel) ⟨Nat.le_of_ble_eq_true rfl, Nat.le_of_ble_eq_true rfl⟩) hP hD hA hS hK rfl (by decide) rfl (by decide) (by decide) (fun _ => rfl) (by decide) rfl rfl rfl rfl rfl hl.1 (Nat.le_of_ble_eq_true rfl) dX4_overlap_23 ⟨Nat.le_of_ble_eq_true rfl, Nat.le_of_ble_eq_true rfl⟩ (fun uu H locs hP hD hS => ?_)
  obtain ⟨g1, g2, g3⟩ := uu
  have hP : va_P (dC, dI) vwCl [(ob, .inr (4, [.ref ahl, .int (nI nh), .ref abl, .int (nI nb), .ref asr, .ref pb, .ref atr, .int (nI nt), .ref tb, .ref mt])), (abl, .inl (cB, 16, .inr (.inr (.inr (.inr fbl))))), (mt, .inr (2, [.long (oUp kx0 ky0 kx1 ky1 kdx kdy kx0 ky0 kx1 ky1 kdx kdy), .long (oLo kx0 ky0 kx1 ky1 kdx kdy kx0 ky0 kx1 ky1 kdx kdy), .long g1, .long g2, .int (bI g3)])), (bk, .inr (0, [.long kx0, .long ky0, .long kx1, .long ky1, .long kdx, .long kdy]))] H := hP
  have hD : va_D A [(ob, .inr (4, [.ref ahl, .int (nI nh), .ref abl, .int (nI nb), .ref asr, .ref pb, .ref atr, .int (nI nt), .ref tb, .ref mt])), (abl, .inl (cB, 16, .inr (.inr (.inr (.inr fbl))))), (mt, .inr (2, [.long (oUp kx0 ky0 kx1 ky1 kdx kdy kx0 ky0 kx1 ky1 kdx kdy), .long (oLo kx0 ky0 kx1 ky1 kdx kdy kx0 ky0 kx1 ky1 kdx kdy), .long g1, .long g2, .int (bI g3)])), (bk, .inr (0, [.long kx0, .long ky0, .long kx1, .long ky1, .long kdx, .long kdy]))] := hD
  refine lv_pop hx hb dX4_overlap_26 rfl ?_
  refine lv_iload_n hx hb dX4_overlap_27 rfl (lv_at hl 3 rfl) ?_
  refine lv_if_ne (tgt := 41) hx hb dX4_overlap_28 (by decide) (fun c28 => ?_) (fun c28 => ?_)
  · rw [← nI_0, nI_eq (by omega) (by omega)] at c28
    refine lv_aload_n hx hb dX4_overlap_41 rfl (lv_at hl 0 rfl) ?_
    refine va_get (D := (dC, dI)) (ci := 4) (v := .ref mt) (C := RX4) (T := TX4) (N := 10) hx hb hts hi4 hown hK hP 0 rfl rfl 9 (by decide) f42 (fun _ h9 => h9) rfl dX4_overlap_42 ?_
    refine va_get (D := (dC, dI)) (ci := 2) (v := .long (oLo kx0 ky0 kx1 ky1 kdx kdy kx0 ky0 kx1 ky1 kdx kdy)) (C := RX2) (T := TX2) (N := 5) hx hb hts hi2 hown hK hP 2 rfl rfl 1 (by decide) f131 (fun _ h9 => h9) rfl dX4_overlap_45 ?_
    exact kXl (u := (g1, g2, g3)) hx hb hr hlocks hP hK hD hS dX4_overlap_48 rfl
  · skip
    exact absurd c28 (by decide)

set_option maxHeartbeats 4000000 in
set_option maxRecDepth 100000 in
theorem tX4_overlap_21 (l : Launch) (dC : Nat → ClassId) (dI : Nat → Nat → Nat) (cB : ClassId) (ob ahl nh abl nb asr pb atr nt tb mt : Nat) (fbl : Nat → Option Nat) (bk : Nat) (kx0 ky0 kx1 ky1 kdx kdy : Int64) (bl : Nat) (lx0 ly0 lx1 ly1 ldx ldy : Int64) (mu ml meu mel : Int64) (mbar : Bool) (a b : Nat) (ha : a < nb) (hb_ : b < nb) (hn : nb ≤ 16) (hh : fbl a = some bk) (hh2 : fbl b = some bl) : XMl l yX4_overlap wsX4_overlap { frames := 4, cells := 0, slots := 0, locals := 101 } [.ref ob, .int (nI a), .int (nI b), .int (nI 1)] (dC, dI) [(ob, .inr (4, [.ref ahl, .int (nI nh), .ref abl, .int (nI nb), .ref asr, .ref pb, .ref atr, .int (nI nt), .ref tb, .ref mt])), (abl, .inl (cB, 16, .inr (.inr (.inr (.inr fbl))))), (mt, .inr (2, [.long mu, .long ml, .long meu, .long mel, .int (bI mbar)])), (bk, .inr (0, [.long kx0, .long ky0, .long kx1, .long ky1, .long kdx, .long kdy])), (bl, .inr (0, [.long lx0, .long ly0, .long lx1, .long ly1, .long ldx, .long ldy]))] (fun (u : Int64 × Int64 × Bool) => [(ob, .inr (4, [.ref ahl, .int (nI nh), .ref abl, .int (nI nb), .ref asr, .ref pb, .ref atr, .int (nI nt), .ref tb, .ref mt])), (abl, .inl (cB, 16, .inr (.inr (.inr (.inr fbl))))), (mt, .inr (2, [.long (oUp kx0 ky0 kx1 ky1 kdx kdy lx0 ly0 lx1 ly1 ldx ldy), .long (oLo kx0 ky0 kx1 ky1 kdx kdy lx0 ly0 lx1 ly1 ldx ldy), .long u.1, .long u.2.1, .int (bI u.2.2)])), (bk, .inr (0, [.long kx0, .long ky0, .long kx1, .long ky1, .long kdx, .long kdy])), (bl, .inr (0, [.long lx0, .long ly0, .long lx1, .long ly1, .long ldx, .long ldy]))]) [(cB, .object "SweptBoxes$Block")] (oLo kx0 ky0 kx1 ky1 kdx kdy lx0 ly0 lx1 ly1 ldx ldy) := by
  intro sz
  refine kOf (cc := cX4_overlap) (maxL := 4) (ret := (some .long)) (by decide) rfl (Nat.le_of_ble_eq_true rfl) ?_
  intro p e s m below meth c hx hb hr hml hts hown hlocks hB ls hl
  obtain ⟨hsz, hP, hK, hD0⟩ := hB
  subst hsz
  have hD := hD0.self (sz := s.heap.size)
  generalize hAe : va_A [(ob, .inr (4, [.ref ahl, .int (nI nh), .ref abl, .int (nI nb), .ref asr, .ref pb, .ref atr, .int (nI nt), .ref tb, .ref mt])), (abl, .inl (cB, 16, .inr (.inr (.inr (.inr fbl))))), (mt, .inr (2, [.long mu, .long ml, .long meu, .long mel, .int (bI mbar)])), (bk, .inr (0, [.long kx0, .long ky0, .long kx1, .long ky1, .long kdx, .long kdy])), (bl, .inr (0, [.long lx0, .long ly0, .long lx1, .long ly1, .long ldx, .long ldy]))] s.heap.size = A at hD ⊢
  have hA : ∀ q : Nat, s.heap.size ≤ q → A q := fun q h => by rw [← hAe]; exact Or.inr h
  have hS : va_S A s.heap s.heap [] := va_S.rf
  have hl : lv_has ls 4 [(0, .ref ob), (1, .int (nI a)), (2, .int (nI b)), (3, .int (nI 1))] := hl
  have hi2 : ∀ w ∈ u_ws RX2 TX2 5, w ∈ wsX4_overlap := by decide +kernel
  have hi4 : ∀ w ∈ u_ws RX4 TX4 10, w ∈ wsX4_overlap := by decide +kernel
  have f17 := hts (.fieldLink RX4 17 "SweptBoxes" "blocks" "[LSweptBoxes$Block;") (by decide +kernel)
  have f42 := hts (.fieldLink RX4 42 "SweptBoxes" "meeting" "LSweptBoxes$Meeting;") (by decide +kernel)
  have f131 := hts (.fieldLink RX4 131 "SweptBoxes$Meeting" "lower" "J") (by decide +kernel)
  refine lv_aload_n hx hb dX4_overlap_0 rfl (lv_at hl 0 rfl) ?_
  refine lv_iload_n hx hb dX4_overlap_1 rfl (lv_at hl 1 rfl) ?_
  refine lv_iload_n hx hb dX4_overlap_2 rfl (lv_at hl 2 rfl) ?_
  refine lv_iload_n hx hb dX4_overlap_3 rfl (lv_at hl 3 rfl) ?_
  refine kmVv (q0 := 0) (ci := 4) (As := [.int (nI a), .int (nI b), .int (nI 1)]) (rest := []) (WC := [(ob, .inr (4, [.ref ahl, .int (nI nh), .ref abl, .int (nI nb), .ref asr, .ref pb, .ref atr, .int (nI nt), .ref tb, .ref mt]))]) (W2 := [(ob, .inr (4, [.ref ahl, .int (nI nh), .ref abl, .int (nI nb), .ref asr, .ref pb, .ref atr, .int (nI nt), .ref tb, .ref mt]))]) (WR := [(abl, .inl (cB, 16, .inr (.inr (.inr (.inr fbl))))), (mt, .inr (2, [.long mu, .long ml, .long meu, .long mel, .int (bI mbar)])), (bk, .inr (0, [.long kx0, .long ky0, .long kx1, .long ky1, .long kdx, .long kdy])), (bl, .inr (0, [.long lx0, .long ly0, .long lx1, .long ly1, .long ldx, .long ldy]))]) (WN := [(ob, .inr (4, [.ref ahl, .int (nI nh), .ref abl, .int (nI nb), .ref asr, .ref pb, .ref atr, .int (nI nt), .ref tb, .ref mt])), (abl, .inl (cB, 16, .inr (.inr (.inr (.inr fbl))))), (mt, .inr (2, [.long mu, .long ml, .long meu, .long mel, .int (bI mbar)])), (bk, .inr (0, [.long kx0, .long ky0, .long kx1, .long ky1, .long kdx, .long kdy])), (bl, .inr (0, [.long lx0, .long ly0, .long lx1, .long ly1, .long ldx, .long ldy]))]) (tyC := []) (isC := [0]) (isR := [1, 2, 3, 4]) (isN := [4, 0, 1, 2, 3]) (its := []) ⟨hx, hb, hml, hown, hts⟩ (tX4_needMeeting_o l dC dI ob ahl nh abl nb asr pb atr nt tb mt a b 1 (by omega) (by omega) (by omega) (by omega)) (cwV 3 hts gX4_overlap_X4_needMeeting rfl rfl rfl (by decide +kernel) ⟨Nat.le_of_ble_eq_true rfl, Nat.le_of_ble_eq_true rfl⟩) hP hD hA hS hK rfl (by decide) rfl (by decide) (by decide) rfl (by decide) rfl rfl rfl rfl rfl hl.1 (Nat.le_of_ble_eq_true rfl) dX4_overlap_4 ⟨Nat.le_of_ble_eq_true rfl, Nat.le_of_ble_eq_true rfl⟩ (fun H locs hP hD hS => ?_)
  refine lv_aload_n hx hb dX4_overlap_7 rfl (lv_at hl 0 rfl) ?_
  refine va_get (D := (dC, dI)) (ci := 4) (v := .ref mt) (C := RX4) (T := TX4) (N := 10) hx hb hts hi4 hown hK hP 0 rfl rfl 9 (by decide) f42 (fun _ h9 => h9) rfl dX4_overlap_8 ?_
  refine lv_aload_n hx hb dX4_overlap_11 rfl (lv_at hl 0 rfl) ?_
  refine va_get (D := (dC, dI)) (ci := 4) (v := .ref abl) (C := RX4) (T := TX4) (N := 10) hx hb hts hi4 hown hK hP 0 rfl rfl 2 (by decide) f17 (fun _ h9 => h9) rfl dX4_overlap_12 ?_
  refine lv_iload_n hx hb dX4_overlap_15 rfl (lv_at hl 1 rfl) ?_
  refine va_aldq hx hb hK hP 1 0 rfl rfl (vp_in_nI (show a < 16 by omega) (by omega)) dX4_overlap_16 ?_
  rw [show (nI a).toNatClampNeg = a from nI_clamp (show a < 2 ^ 31 by omega)]
  rw [show (fbl a) = some bk from hh]
  refine lv_aload_n hx hb dX4_overlap_17 rfl (lv_at hl 0 rfl) ?_
  refine va_get (D := (dC, dI)) (ci := 4) (v := .ref abl) (C := RX4) (T := TX4) (N := 10) hx hb hts hi4 hown hK hP 0 rfl rfl 2 (by decide) f17 (fun _ h9 => h9) rfl dX4_overlap_18 ?_
  refine lv_iload_n hx hb dX4_overlap_21 rfl (lv_at hl 2 rfl) ?_
  refine va_aldq hx hb hK hP 1 0 rfl rfl (vp_in_nI (show b < 16 by omega) (by omega)) dX4_overlap_22 ?_
  rw [show (nI b).toNatClampNeg = b from nI_clamp (show b < 2 ^ 31 by omega)]
  rw [show (fbl b) = some bl from hh2]
  refine kxVi (q0 := 0) (ci := 2) (As := [.ref bk, .ref bl]) (rest := []) (WC := [(mt, .inr (2, [.long mu, .long ml, .long meu, .long mel, .int (bI mbar)])), (bk, .inr (0, [.long kx0, .long ky0, .long kx1, .long ky1, .long kdx, .long kdy])), (bl, .inr (0, [.long lx0, .long ly0, .long lx1, .long ly1, .long ldx, .long ldy]))]) (W2 := (fun (u : Int64 × Int64 × Bool) => [(mt, .inr (2, [.long (oUp kx0 ky0 kx1 ky1 kdx kdy lx0 ly0 lx1 ly1 ldx ldy), .long (oLo kx0 ky0 kx1 ky1 kdx kdy lx0 ly0 lx1 ly1 ldx ldy), .long u.1, .long u.2.1, .int (bI u.2.2)])), (bk, .inr (0, [.long kx0, .long ky0, .long kx1, .long ky1, .long kdx, .long kdy])), (bl, .inr (0, [.long lx0, .long ly0, .long lx1, .long ly1, .long ldx, .long ldy]))])) (WR := [(ob, .inr (4, [.ref ahl, .int (nI nh), .ref abl, .int (nI nb), .ref asr, .ref pb, .ref atr, .int (nI nt), .ref tb, .ref mt])), (abl, .inl (cB, 16, .inr (.inr (.inr (.inr fbl)))))]) (WN := (fun (u : Int64 × Int64 × Bool) => [(ob, .inr (4, [.ref ahl, .int (nI nh), .ref abl, .int (nI nb), .ref asr, .ref pb, .ref atr, .int (nI nt), .ref tb, .ref mt])), (abl, .inl (cB, 16, .inr (.inr (.inr (.inr fbl))))), (mt, .inr (2, [.long (oUp kx0 ky0 kx1 ky1 kdx kdy lx0 ly0 lx1 ly1 ldx ldy), .long (oLo kx0 ky0 kx1 ky1 kdx kdy lx0 ly0 lx1 ly1 ldx ldy), .long u.1, .long u.2.1, .int (bI u.2.2)])), (bk, .inr (0, [.long kx0, .long ky0, .long kx1, .long ky1, .long kdx, .long kdy])), (bl, .inr (0, [.long lx0, .long ly0, .long lx1, .long ly1, .long ldx, .long ldy]))])) (tyC := []) (isC := [2, 3, 4]) (isR := [0, 1]) (isN := [0, 1, 2, 3, 4]) (its := []) ⟨hx, hb, hml, hown, hts⟩ (tX2_oSeek l dC dI mt mu ml meu mel mbar bk kx0 ky0 kx1 ky1 kdx kdy bl lx0 ly0 lx1 ly1 ldx ldy) (cwV 2 hts gX4_overlap_X2_seekOverlap rfl rfl rfl (by decide +kernel) ⟨Nat.le_of_ble_eq_true rfl, Nat.le_of_ble_eq_true rfl⟩) hP hD hA hS hK rfl (by decide) rfl (by decide) (by decide) (fun _ => rfl) (by decide) rfl rfl rfl rfl rfl hl.1 (Nat.le_of_ble_eq_true rfl) dX4_overlap_23 ⟨Nat.le_of_ble_eq_true rfl, Nat.le_of_ble_eq_true rfl⟩ (fun uu H locs hP hD hS => ?_)
  obtain ⟨g1, g2, g3⟩ := uu
  have hP : va_P (dC, dI) vwCl [(ob, .inr (4, [.ref ahl, .int (nI nh), .ref abl, .int (nI nb), .ref asr, .ref pb, .ref atr, .int (nI nt), .ref tb, .ref mt])), (abl, .inl (cB, 16, .inr (.inr (.inr (.inr fbl))))), (mt, .inr (2, [.long (oUp kx0 ky0 kx1 ky1 kdx kdy lx0 ly0 lx1 ly1 ldx ldy), .long (oLo kx0 ky0 kx1 ky1 kdx kdy lx0 ly0 lx1 ly1 ldx ldy), .long g1, .long g2, .int (bI g3)])), (bk, .inr (0, [.long kx0, .long ky0, .long kx1, .long ky1, .long kdx, .long kdy])), (bl, .inr (0, [.long lx0, .long ly0, .long lx1, .long ly1, .long ldx, .long ldy]))] H := hP
  have hD : va_D A [(ob, .inr (4, [.ref ahl, .int (nI nh), .ref abl, .int (nI nb), .ref asr, .ref pb, .ref atr, .int (nI nt), .ref tb, .ref mt])), (abl, .inl (cB, 16, .inr (.inr (.inr (.inr fbl))))), (mt, .inr (2, [.long (oUp kx0 ky0 kx1 ky1 kdx kdy lx0 ly0 lx1 ly1 ldx ldy), .long (oLo kx0 ky0 kx1 ky1 kdx kdy lx0 ly0 lx1 ly1 ldx ldy), .long g1, .long g2, .int (bI g3)])), (bk, .inr (0, [.long kx0, .long ky0, .long kx1, .long ky1, .long kdx, .long kdy])), (bl, .inr (0, [.long lx0, .long ly0, .long lx1, .long ly1, .long ldx, .long ldy]))] := hD
  refine lv_pop hx hb dX4_overlap_26 rfl ?_
  refine lv_iload_n hx hb dX4_overlap_27 rfl (lv_at hl 3 rfl) ?_
  refine lv_if_ne (tgt := 41) hx hb dX4_overlap_28 (by decide) (fun c28 => ?_) (fun c28 => ?_)
  · rw [← nI_0, nI_eq (by omega) (by omega)] at c28
    refine lv_aload_n hx hb dX4_overlap_41 rfl (lv_at hl 0 rfl) ?_
    refine va_get (D := (dC, dI)) (ci := 4) (v := .ref mt) (C := RX4) (T := TX4) (N := 10) hx hb hts hi4 hown hK hP 0 rfl rfl 9 (by decide) f42 (fun _ h9 => h9) rfl dX4_overlap_42 ?_
    refine va_get (D := (dC, dI)) (ci := 2) (v := .long (oLo kx0 ky0 kx1 ky1 kdx kdy lx0 ly0 lx1 ly1 ldx ldy)) (C := RX2) (T := TX2) (N := 5) hx hb hts hi2 hown hK hP 2 rfl rfl 1 (by decide) f131 (fun _ h9 => h9) rfl dX4_overlap_45 ?_
    exact kXl (u := (g1, g2, g3)) hx hb hr hlocks hP hK hD hS dX4_overlap_48 rfl
  · skip
    exact absurd c28 (by decide)

def XMl_ : Nat := 0