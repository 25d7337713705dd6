theorem pI0 : (nI 0 : Int32) = 0 := rfl
/-- the farthest of the corners 0 .. k in a direction -/
def pF (fx fy : Nat → Int64) (dx dy : Int64) : Nat → Int64
  | 0 => fx 0 * dx + fy 0 * dy
  | k + 1 => lMax (pF fx fy dx dy k) (fx (k + 1) * dx + fy (k + 1) * dy)
def pAfter (n k : Nat) : Nat := if k + 1 < n then k + 1 else 0
theorem pAfter_lt {n k : Nat} (h : k < n) : pAfter n k < n := by unfold pAfter; split <;> omega
def pTurn (ax ay bx by_ : Int64) : Int64 := ax * by_ - ay * bx
def pEdge (fx fy : Nat → Int64) (n k : Nat) (x y : Int64) : Int64 := pTurn (fx (pAfter n k) - fx k) (fy (pAfter n k) - fy k) (x - fx k) (y - fy k)
def pInR (fx fy : Nat → Int64) (n : Nat) (x y : Int64) : Prop := ¬ pF fx fy 1 0 (n - 1) < x * 1 + y * 0 ∧ ¬ pF fx fy (-1) 0 (n - 1) < x * (-1) + y * 0 ∧ ¬ pF fx fy 0 1 (n - 1) < x * 0 + y * 1 ∧ ¬ pF fx fy 0 (-1) (n - 1) < x * 0 + y * (-1)
theorem pInR_dec (fx fy : Nat → Int64) (n : Nat) (x y : Int64) : pInR fx fy n x y ∨ ¬ pInR fx fy n x y := Classical.em _
set_option maxHeartbeats 4000000 in
set_option maxRecDepth 100000 in
theorem tX1_farthest (l : Launch) (dC : Nat → ClassId) (dI : Nat → Nat → Nat) (cJ : ClassId) (h0 ox oy ax ay pn on n : Nat) (fx fy : Nat → Int64) (dx dy : Int64) (hn : n ≤ 32) : PMl l yX1_farthest wsX1_farthest { frames := 1, cells := 0, slots := 0, locals := 23 } [.ref h0, .long dx, .long dy] (dC, dI) [(h0, .inr (1, [.int (nI pn), .ref ox, .ref oy, .int (nI on), .ref ax, .ref ay, .int (nI n)])), (ax, .inl (cJ, 32, .inr (.inl fx))), (ay, .inl (cJ, 32, .inr (.inl fy)))] [(cJ, .long)] (pF fx fy dx dy (n - 1)) := by
  refine kOf (cc := cX1_farthest) (maxL := 8) (ret := (some .long)) (by decide) rfl (Nat.le_of_ble_eq_true rfl) ?_
  intro p e s m below meth c hx hb hr hml hts hown hlocks hB ls hl
  obtain ⟨hP, hK⟩ := hB
  have hl : lv_has ls 8 [(0, .ref h0), (1, .long dx), (3, .long dy)] := hl
  have hi1 : ∀ w ∈ u_ws RX1 TX1 7, w ∈ wsX1_farthest := by decide +kernel
  have f18 := hts (.fieldLink RX1 18 "SweptBoxes$Hull" "xs" "[J") (by decide +kernel)
  have f21 := hts (.fieldLink RX1 21 "SweptBoxes$Hull" "ys" "[J") (by decide +kernel)
  have f31 := hts (.fieldLink RX1 31 "SweptBoxes$Hull" "size" "I") (by decide +kernel)
  refine lv_aload_n hx hb dX1_farthest_0 rfl (lv_at hl 0 rfl) ?_
  refine va_get (D := (dC, dI)) (ci := 1) (v := .ref ax) (C := RX1) (T := TX1) (N := 7) hx hb hts hi1 hown hK hP 0 rfl rfl 4 (by decide) f18 (fun _ h9 => h9) rfl dX1_farthest_1 ?_
  refine lv_iconst (v := (nI 0)) hx hb dX1_farthest_4 (by decide) ?_
  refine va_lald hx hb hK hP 1 0 rfl rfl (vp_in_nI (show 0 < 32 by omega) (by omega)) dX1_farthest_5 ?_
  rw [show (nI 0).toNatClampNeg = 0 from nI_clamp (show 0 < 2 ^ 31 by omega)]
  refine lv_lload_n hx hb dX1_farthest_6 rfl (lv_at hl 1 rfl) ?_
  refine lv_lmul hx hb dX1_farthest_7 ?_
  refine lv_aload_n hx hb dX1_farthest_8 rfl (lv_at hl 0 rfl) ?_
  refine va_get (D := (dC, dI)) (ci := 1) (v := .ref ay) (C := RX1) (T := TX1) (N := 7) hx hb hts hi1 hown hK hP 0 rfl rfl 5 (by decide) f21 (fun _ h9 => h9) rfl dX1_farthest_9 ?_
  refine lv_iconst (v := (nI 0)) hx hb dX1_farthest_12 (by decide) ?_
  refine va_lald hx hb hK hP 2 0 rfl rfl (vp_in_nI (show 0 < 32 by omega) (by omega)) dX1_farthest_13 ?_
  rw [show (nI 0).toNatClampNeg = 0 from nI_clamp (show 0 < 2 ^ 31 by omega)]
  refine lv_lload_n hx hb dX1_farthest_14 rfl (lv_at hl 2 rfl) ?_
  refine lv_lmul hx hb dX1_farthest_15 ?_
  refine lv_ladd hx hb dX1_farthest_16 ?_
  refine lv_lstore (lv' := [(5, .long (((fx 0) * dx) + ((fy 0) * dy))), (0, .ref h0), (1, .long dx), (3, .long dy)]) hx hb dX1_farthest_17 hl (by decide) rfl (fun ls hl => ?_)
  refine lv_iconst (v := (nI 1)) hx hb dX1_farthest_19 (by decide) ?_
  refine lv_istore (lv' := [(7, .int (nI 1)), (5, .long (((fx 0) * dx) + ((fy 0) * dy))), (0, .ref h0), (1, .long dx), (3, .long dy)]) hx hb dX1_farthest_20 hl (by decide) rfl (fun ls hl => ?_)
  refine kLoop (σ := Nat) (fun xz H locs ls => match xz with | j => (H = s.heap) ∧ (locs = []) ∧ (lv_has ls 8 [(0, .ref h0), (1, .long dx), (3, .long dy), (5, .long (pF fx fy dx dy j)), (7, .int (nI (j + 1)))]) ∧ (j = 0 ∨ j < n)) (fun xz => match xz with | j => n - j) ?_ (0) ?_
  · rintro j H locs ls hI ih22
    obtain ⟨hHe, hLe, hl, hi22_⟩ := hI
    subst hHe
    subst hLe
    refine lv_iload hx hb dX1_farthest_22 (lv_at hl 4 rfl) ?_
    refine lv_aload_n hx hb dX1_farthest_24 rfl (lv_at hl 0 rfl) ?_
    refine va_get (D := (dC, dI)) (ci := 1) (v := .int (nI n)) (C := RX1) (T := TX1) (N := 7) hx hb hts hi1 hown hK hP 0 rfl rfl 6 (by decide) f31 (fun _ h9 => h9) rfl dX1_farthest_25 ?_
    refine lv_icmp_ge (tgt := 63) hx hb dX1_farthest_28 (by decide) (fun c28 => ?_) (fun c28 => ?_)
    · rw [nI_leI (by omega) (by omega)] at c28
      refine lv_lload hx hb dX1_farthest_63 (lv_at hl 3 rfl) ?_
      exact kRl hx hb hr hlocks dX1_farthest_65 (by rw [show n - 1 = j by omega])
    · rw [nI_leI (by omega) (by omega), Nat.not_le] at c28
      refine lv_lload hx hb dX1_farthest_31 (lv_at hl 3 rfl) ?_
      refine lv_aload_n hx hb dX1_farthest_33 rfl (lv_at hl 0 rfl) ?_
      refine va_get (D := (dC, dI)) (ci := 1) (v := .ref ax) (C := RX1) (T := TX1) (N := 7) hx hb hts hi1 hown hK hP 0 rfl rfl 4 (by decide) f18 (fun _ h9 => h9) rfl dX1_farthest_34 ?_
      refine lv_iload hx hb dX1_farthest_37 (lv_at hl 4 rfl) ?_
      refine va_lald hx hb hK hP 1 0 rfl rfl (vp_in_nI (show (j + 1) < 32 by omega) (by omega)) dX1_farthest_39 ?_
      rw [show (nI (j + 1)).toNatClampNeg = (j + 1) from nI_clamp (show (j + 1) < 2 ^ 31 by omega)]
      refine lv_lload_n hx hb dX1_farthest_40 rfl (lv_at hl 1 rfl) ?_
      refine lv_lmul hx hb dX1_farthest_41 ?_
      refine lv_aload_n hx hb dX1_farthest_42 rfl (lv_at hl 0 rfl) ?_
      refine va_get (D := (dC, dI)) (ci := 1) (v := .ref ay) (C := RX1) (T := TX1) (N := 7) hx hb hts hi1 hown hK hP 0 rfl rfl 5 (by decide) f21 (fun _ h9 => h9) rfl dX1_farthest_43 ?_
      refine lv_iload hx hb dX1_farthest_46 (lv_at hl 4 rfl) ?_
      refine va_lald hx hb hK hP 2 0 rfl rfl (vp_in_nI (show (j + 1) < 32 by omega) (by omega)) dX1_farthest_48 ?_
      rw [show (nI (j + 1)).toNatClampNeg = (j + 1) from nI_clamp (show (j + 1) < 2 ^ 31 by omega)]
      refine lv_lload_n hx hb dX1_farthest_49 rfl (lv_at hl 2 rfl) ?_
      refine lv_lmul hx hb dX1_farthest_50 ?_
      refine lv_ladd hx hb dX1_farthest_51 ?_
      refine va_mmax_long hx hb (hml.trans hl.1.symm) hown (hts (.methodLink RX1 78 Lib.MathLoose.max_long.x) (by decide +kernel)) (hts (.static Lib.MathLoose.max_long.x) (by decide +kernel)) (hts (.initialized "java/lang/Math") (by decide +kernel)) (hts (.code Lib.MathLoose.max_long.x Lib.MathLoose.max_long.code 4 (some .long)) (by decide +kernel)) (Nat.le_of_ble_eq_true rfl) (Nat.le_of_ble_eq_true rfl) (Nat.zero_le _) (Nat.zero_le _) dX1_farthest_52 ?_
      refine lv_lstore (lv' := [(5, .long (lMax (pF fx fy dx dy j) (((fx ((j + 1))) * dx) + ((fy ((j + 1))) * dy)))), (0, .ref h0), (1, .long dx), (3, .long dy), (7, .int (nI (j + 1)))]) hx hb dX1_farthest_55 hl (by decide) rfl (fun ls hl => ?_)
      refine lv_iinc (v := (nI ((j + 1) + 1))) (lv' := [(7, .int (nI ((j + 1) + 1))), (5, .long (lMax (pF fx fy dx dy j) (((fx ((j + 1))) * dx) + ((fy ((j + 1))) * dy)))), (0, .ref h0), (1, .long dx), (3, .long dy)]) hx hb dX1_farthest_57 hl (k := 4) rfl (show (nI (j + 1)) + Int32.ofInt 1 = nI ((j + 1) + 1) from nI_add ((j + 1)) 1) (by decide) rfl (fun ls hl => ?_)
      refine lv_goto (tgt := 22) hx hb dX1_farthest_60 (by decide) ?_
      exact ih22 (j + 1) _ _ _ ⟨rfl, rfl, lv_sub hl [2, 3, 4, 1, 0] rfl, (by omega)⟩ (by simp only []; omega)
  · exact ⟨rfl, rfl, lv_sub hl [2, 3, 4, 1, 0] rfl, Or.inl rfl⟩

set_option maxHeartbeats 4000000 in
set_option maxRecDepth 100000 in
theorem tX1_isBeyondAll (l : Launch) (dC : Nat → ClassId) (dI : Nat → Nat → Nat) (cJ : ClassId) (h0 ox oy ax ay pn on n : Nat) (fx fy : Nat → Int64) (x y dx dy : Int64) (hn : n ≤ 32) : PMi l yX1_isBeyondAll wsX1_isBeyondAll { frames := 2, cells := 0, slots := 0, locals := 50 } [.ref h0, .long x, .long y, .long dx, .long dy] (dC, dI) [(h0, .inr (1, [.int (nI pn), .ref ox, .ref oy, .int (nI on), .ref ax, .ref ay, .int (nI n)])), (ax, .inl (cJ, 32, .inr (.inl fx))), (ay, .inl (cJ, 32, .inr (.inl fy)))] [(cJ, .long)] (bI (decide (pF fx fy dx dy (n - 1) < ((x * dx) + (y * dy))))) := by
  refine kOf (cc := cX1_isBeyondAll) (maxL := 9) (ret := (some .boolean)) (by decide) rfl (Nat.le_of_ble_eq_true rfl) ?_
  intro p e s m below meth c hx hb hr hml hts hown hlocks hB ls hl
  obtain ⟨hP, hK⟩ := hB
  have hl : lv_has ls 9 [(0, .ref h0), (1, .long x), (3, .long y), (5, .long dx), (7, .long dy)] := hl
  refine lv_lload_n hx hb dX1_isBeyondAll_0 rfl (lv_at hl 1 rfl) ?_
  refine lv_lload hx hb dX1_isBeyondAll_1 (lv_at hl 3 rfl) ?_
  refine lv_lmul hx hb dX1_isBeyondAll_3 ?_
  refine lv_lload_n hx hb dX1_isBeyondAll_4 rfl (lv_at hl 2 rfl) ?_
  refine lv_lload hx hb dX1_isBeyondAll_5 (lv_at hl 4 rfl) ?_
  refine lv_lmul hx hb dX1_isBeyondAll_7 ?_
  refine lv_ladd hx hb dX1_isBeyondAll_8 ?_
  refine lv_aload_n hx hb dX1_isBeyondAll_9 rfl (lv_at hl 0 rfl) ?_
  refine lv_lload hx hb dX1_isBeyondAll_10 (lv_at hl 3 rfl) ?_
  refine lv_lload hx hb dX1_isBeyondAll_12 (lv_at hl 4 rfl) ?_
  refine kpVl (q0 := 0) (ci := 1) (As := [.long dx, .long dy]) (rest := [.long ((x * dx) + (y * dy))]) (WC := [(h0, .inr (1, [.int (nI pn), .ref ox, .ref oy, .int (nI on), .ref ax, .ref ay, .int (nI n)])), (ax, .inl (cJ, 32, .inr (.inl fx))), (ay, .inl (cJ, 32, .inr (.inl fy)))]) (tyC := [(cJ, .long)]) ⟨hx, hb, hml, hown, hts⟩ (tX1_farthest l dC dI cJ h0 ox oy ax ay pn on n fx fy dx dy (by omega)) (cwV 2 hts gX1_isBeyondAll_X1_farthest rfl rfl rfl (by decide +kernel) ⟨Nat.le_of_ble_eq_true rfl, Nat.le_of_ble_eq_true rfl⟩) (kPick (isC := [0, 1, 2]) hP rfl) (hK.sub [0] rfl) rfl rfl rfl rfl hl.1 (Nat.le_of_ble_eq_true rfl) dX1_isBeyondAll_14 ⟨Nat.le_of_ble_eq_true rfl, Nat.le_of_ble_eq_true rfl⟩ ?_
  refine W.lcmp hx hb dX1_isBeyondAll_17 ?_
  refine lv_if_le (tgt := 25) hx hb dX1_isBeyondAll_18 (by decide) (fun c18 => ?_) (fun c18 => ?_)
  · rw [lg_cmp_le] at c18
    refine lv_iconst (v := (nI 0)) hx hb dX1_isBeyondAll_25 (by decide) ?_
    exact kRz hx hb hr hlocks dX1_isBeyondAll_26 (kz0 (by (try simp only [Int64.lt_iff_toInt_lt, Int64.le_iff_toInt_le, ← Int64.toInt_inj, Int32.lt_iff_toInt_lt, Int32.le_iff_toInt_le, ← Int32.toInt_inj] at c18 ⊢); omega))
  · rw [lg_cmp_le, Int64.not_le] at c18
    refine lv_iconst (v := (nI 1)) hx hb dX1_isBeyondAll_21 (by decide) ?_
    refine lv_goto (tgt := 26) hx hb dX1_isBeyondAll_22 (by decide) ?_
    exact kRz hx hb hr hlocks dX1_isBeyondAll_26 (kz1 (by (try simp only [Int64.lt_iff_toInt_lt, Int64.le_iff_toInt_le, ← Int64.toInt_inj, Int32.lt_iff_toInt_lt, Int32.le_iff_toInt_le, ← Int32.toInt_inj] at c18 ⊢); omega))

set_option maxHeartbeats 4000000 in
set_option maxRecDepth 100000 in
theorem tX1_isInRange (l : Launch) (dC : Nat → ClassId) (dI : Nat → Nat → Nat) (cJ : ClassId) (h0 ox oy ax ay pn on n : Nat) (fx fy : Nat → Int64) (x y : Int64) (hn : n ≤ 32) : PMi l yX1_isInRange wsX1_isInRange { frames := 3, cells := 0, slots := 0, locals := 78 } [.ref h0, .long x, .long y] (dC, dI) [(h0, .inr (1, [.int (nI pn), .ref ox, .ref oy, .int (nI on), .ref ax, .ref ay, .int (nI n)])), (ax, .inl (cJ, 32, .inr (.inl fx))), (ay, .inl (cJ, 32, .inr (.inl fy)))] [(cJ, .long)] (bI (decide (¬ pF fx fy 1 0 (n - 1) < x * 1 + y * 0 ∧ ¬ pF fx fy (-1) 0 (n - 1) < x * (-1) + y * 0 ∧ ¬ pF fx fy 0 1 (n - 1) < x * 0 + y * 1 ∧ ¬ pF fx fy 0 (-1) (n - 1) < x * 0 + y * (-1)))) := by
  refine kOf (cc := cX1_isInRange) (maxL := 5) (ret := (some .boolean)) (by decide) rfl (Nat.le_of_ble_eq_true rfl) ?_
  intro p e s m below meth c hx hb hr hml hts hown hlocks hB ls hl
  obtain ⟨hP, hK⟩ := hB
  have hl : lv_has ls 5 [(0, .ref h0), (1, .long x), (3, .long y)] := hl
  refine lv_aload_n hx hb dX1_isInRange_0 rfl (lv_at hl 0 rfl) ?_
  refine lv_lload_n hx hb dX1_isInRange_1 rfl (lv_at hl 1 rfl) ?_
  refine lv_lload_n hx hb dX1_isInRange_2 rfl (lv_at hl 2 rfl) ?_
  refine lv_lconst (v := 1) hx hb dX1_isInRange_3 (by decide) ?_
  refine lv_lconst (v := 0) hx hb dX1_isInRange_4 (by decide) ?_
  refine kpVi (q0 := 0) (ci := 1) (As := [.long x, .long y, .long 1, .long 0]) (rest := []) (WC := [(h0, .inr (1, [.int (nI pn), .ref ox, .ref oy, .int (nI on), .ref ax, .ref ay, .int (nI n)])), (ax, .inl (cJ, 32, .inr (.inl fx))), (ay, .inl (cJ, 32, .inr (.inl fy)))]) (tyC := [(cJ, .long)]) ⟨hx, hb, hml, hown, hts⟩ (tX1_isBeyondAll l dC dI cJ h0 ox oy ax ay pn on n fx fy x y 1 0 (by omega)) (cwV 4 hts gX1_isInRange_X1_isBeyondAll rfl rfl rfl (by decide +kernel) ⟨Nat.le_of_ble_eq_true rfl, Nat.le_of_ble_eq_true rfl⟩) (kPick (isC := [0, 1, 2]) hP rfl) (hK.sub [0] rfl) rfl rfl rfl rfl hl.1 (Nat.le_of_ble_eq_true rfl) dX1_isInRange_5 ⟨Nat.le_of_ble_eq_true rfl, Nat.le_of_ble_eq_true rfl⟩ ?_
  refine lv_if_ne (tgt := 52) hx hb dX1_isInRange_8 (by decide) (fun c8 => ?_) (fun c8 => ?_)
  · replace c8 := bI_n c8; replace c8 := of_decide_eq_true c8
    refine lv_iconst (v := (nI 0)) hx hb dX1_isInRange_52 (by decide) ?_
    exact kRz hx hb hr hlocks dX1_isInRange_53 (kz0 (fun h => h.1 c8))
  · replace c8 := bI_0 c8; replace c8 := of_decide_eq_false c8
    refine lv_aload_n hx hb dX1_isInRange_11 rfl (lv_at hl 0 rfl) ?_
    refine lv_lload_n hx hb dX1_isInRange_12 rfl (lv_at hl 1 rfl) ?_
    refine lv_lload_n hx hb dX1_isInRange_13 rfl (lv_at hl 2 rfl) ?_
    refine lv_ldc2 hx hb hown (hts (.constantLong RX1 68 (-1)) (by decide +kernel)) dX1_isInRange_14 ?_
    refine lv_lconst (v := 0) hx hb dX1_isInRange_17 (by decide) ?_
    refine kpVi (q0 := 0) (ci := 1) (As := [.long x, .long y, .long (-1), .long 0]) (rest := []) (WC := [(h0, .inr (1, [.int (nI pn), .ref ox, .ref oy, .int (nI on), .ref ax, .ref ay, .int (nI n)])), (ax, .inl (cJ, 32, .inr (.inl fx))), (ay, .inl (cJ, 32, .inr (.inl fy)))]) (tyC := [(cJ, .long)]) ⟨hx, hb, hml, hown, hts⟩ (tX1_isBeyondAll l dC dI cJ h0 ox oy ax ay pn on n fx fy x y (-1) 0 (by omega)) (cwV 4 hts gX1_isInRange_X1_isBeyondAll rfl rfl rfl (by decide +kernel) ⟨Nat.le_of_ble_eq_true rfl, Nat.le_of_ble_eq_true rfl⟩) (kPick (isC := [0, 1, 2]) hP rfl) (hK.sub [0] rfl) rfl rfl rfl rfl hl.1 (Nat.le_of_ble_eq_true rfl) dX1_isInRange_18 ⟨Nat.le_of_ble_eq_true rfl, Nat.le_of_ble_eq_true rfl⟩ ?_
    refine lv_if_ne (tgt := 52) hx hb dX1_isInRange_21 (by decide) (fun c21 => ?_) (fun c21 => ?_)
    · replace c21 := bI_n c21; replace c21 := of_decide_eq_true c21
      refine lv_iconst (v := (nI 0)) hx hb dX1_isInRange_52 (by decide) ?_
      exact kRz hx hb hr hlocks dX1_isInRange_53 (kz0 (fun h => h.2.1 c21))
    · replace c21 := bI_0 c21; replace c21 := of_decide_eq_false c21
      refine lv_aload_n hx hb dX1_isInRange_24 rfl (lv_at hl 0 rfl) ?_
      refine lv_lload_n hx hb dX1_isInRange_25 rfl (lv_at hl 1 rfl) ?_
      refine lv_lload_n hx hb dX1_isInRange_26 rfl (lv_at hl 2 rfl) ?_
      refine lv_lconst (v := 0) hx hb dX1_isInRange_27 (by decide) ?_
      refine lv_lconst (v := 1) hx hb dX1_isInRange_28 (by decide) ?_
      refine kpVi (q0 := 0) (ci := 1) (As := [.long x, .long y, .long 0, .long 1]) (rest := []) (WC := [(h0, .inr (1, [.int (nI pn), .ref ox, .ref oy, .int (nI on), .ref ax, .ref ay, .int (nI n)])), (ax, .inl (cJ, 32, .inr (.inl fx))), (ay, .inl (cJ, 32, .inr (.inl fy)))]) (tyC := [(cJ, .long)]) ⟨hx, hb, hml, hown, hts⟩ (tX1_isBeyondAll l dC dI cJ h0 ox oy ax ay pn on n fx fy x y 0 1 (by omega)) (cwV 4 hts gX1_isInRange_X1_isBeyondAll rfl rfl rfl (by decide +kernel) ⟨Nat.le_of_ble_eq_true rfl, Nat.le_of_ble_eq_true rfl⟩) (kPick (isC := [0, 1, 2]) hP rfl) (hK.sub [0] rfl) rfl rfl rfl rfl hl.1 (Nat.le_of_ble_eq_true rfl) dX1_isInRange_29 ⟨Nat.le_of_ble_eq_true rfl, Nat.le_of_ble_eq_true rfl⟩ ?_
      refine lv_if_ne (tgt := 52) hx hb dX1_isInRange_32 (by decide) (fun c32 => ?_) (fun c32 => ?_)
      · replace c32 := bI_n c32; replace c32 := of_decide_eq_true c32
        refine lv_iconst (v := (nI 0)) hx hb dX1_isInRange_52 (by decide) ?_
        exact kRz hx hb hr hlocks dX1_isInRange_53 (kz0 (fun h => h.2.2.1 c32))
      · replace c32 := bI_0 c32; replace c32 := of_decide_eq_false c32
        refine lv_aload_n hx hb dX1_isInRange_35 rfl (lv_at hl 0 rfl) ?_
        refine lv_lload_n hx hb dX1_isInRange_36 rfl (lv_at hl 1 rfl) ?_
        refine lv_lload_n hx hb dX1_isInRange_37 rfl (lv_at hl 2 rfl) ?_
        refine lv_lconst (v := 0) hx hb dX1_isInRange_38 (by decide) ?_
        refine lv_ldc2 hx hb hown (hts (.constantLong RX1 68 (-1)) (by decide +kernel)) dX1_isInRange_39 ?_
        refine kpVi (q0 := 0) (ci := 1) (As := [.long x, .long y, .long 0, .long (-1)]) (rest := []) (WC := [(h0, .inr (1, [.int (nI pn), .ref ox, .ref oy, .int (nI on), .ref ax, .ref ay, .int (nI n)])), (ax, .inl (cJ, 32, .inr (.inl fx))), (ay, .inl (cJ, 32, .inr (.inl fy)))]) (tyC := [(cJ, .long)]) ⟨hx, hb, hml, hown, hts⟩ (tX1_isBeyondAll l dC dI cJ h0 ox oy ax ay pn on n fx fy x y 0 (-1) (by omega)) (cwV 4 hts gX1_isInRange_X1_isBeyondAll rfl rfl rfl (by decide +kernel) ⟨Nat.le_of_ble_eq_true rfl, Nat.le_of_ble_eq_true rfl⟩) (kPick (isC := [0, 1, 2]) hP rfl) (hK.sub [0] rfl) rfl rfl rfl rfl hl.1 (Nat.le_of_ble_eq_true rfl) dX1_isInRange_42 ⟨Nat.le_of_ble_eq_true rfl, Nat.le_of_ble_eq_true rfl⟩ ?_
        refine lv_if_ne (tgt := 52) hx hb dX1_isInRange_45 (by decide) (fun c45 => ?_) (fun c45 => ?_)
        · replace c45 := bI_n c45; replace c45 := of_decide_eq_true c45
          refine lv_iconst (v := (nI 0)) hx hb dX1_isInRange_52 (by decide) ?_
          exact kRz hx hb hr hlocks dX1_isInRange_53 (kz0 (fun h => h.2.2.2 c45))
        · replace c45 := bI_0 c45; replace c45 := of_decide_eq_false c45
          refine lv_iconst (v := (nI 1)) hx hb dX1_isInRange_48 (by decide) ?_
          refine lv_goto (tgt := 53) hx hb dX1_isInRange_49 (by decide) ?_
          exact kRz hx hb hr hlocks dX1_isInRange_53 (kz1 ⟨c8, c21, c32, c45⟩)

set_option maxHeartbeats 4000000 in
set_option maxRecDepth 100000 in
theorem tX1_after (l : Launch) (dC : Nat → ClassId) (dI : Nat → Nat → Nat) (cJ : ClassId) (h0 ox oy ax ay pn on n : Nat) (fx fy : Nat → Int64) (k : Nat) (hn : n ≤ 32) (hk : k < n) : PMi l yX1_after wsX1_after { frames := 0, cells := 0, slots := 0, locals := 0 } [.ref h0, .int (nI k)] (dC, dI) [(h0, .inr (1, [.int (nI pn), .ref ox, .ref oy, .int (nI on), .ref ax, .ref ay, .int (nI n)])), (ax, .inl (cJ, 32, .inr (.inl fx))), (ay, .inl (cJ, 32, .inr (.inl fy)))] [(cJ, .long)] (nI (pAfter n k)) := by
  refine kOf (cc := cX1_after) (maxL := 2) (ret := (some .int)) (by decide) rfl (Nat.le_of_ble_eq_true rfl) ?_
  intro p e s m below meth c hx hb hr hml hts hown hlocks hB ls hl
  obtain ⟨hP, hK⟩ := hB
  have hl : lv_has ls 2 [(0, .ref h0), (1, .int (nI k))] := hl
  have hi1 : ∀ w ∈ u_ws RX1 TX1 7, w ∈ wsX1_after := by decide +kernel
  have f31 := hts (.fieldLink RX1 31 "SweptBoxes$Hull" "size" "I") (by decide +kernel)
  refine lv_iload_n hx hb dX1_after_0 rfl (lv_at hl 1 rfl) ?_
  refine lv_iconst (v := (nI 1)) hx hb dX1_after_1 (by decide) ?_
  refine lv_iadd hx hb dX1_after_2 ?_
  rw [show (nI k) + (nI 1) = (nI (k + 1)) from nI_add k 1]
  refine lv_aload_n hx hb dX1_after_3 rfl (lv_at hl 0 rfl) ?_
  refine va_get (D := (dC, dI)) (ci := 1) (v := .int (nI n)) (C := RX1) (T := TX1) (N := 7) hx hb hts hi1 hown hK hP 0 rfl rfl 6 (by decide) f31 (fun _ h9 => h9) rfl dX1_after_4 ?_
  refine lv_icmp_ge (tgt := 16) hx hb dX1_after_7 (by decide) (fun c7 => ?_) (fun c7 => ?_)
  · rw [nI_leI (by omega) (by omega)] at c7
    refine lv_iconst (v := (nI 0)) hx hb dX1_after_16 (by decide) ?_
    exact kRi hx hb hr hlocks dX1_after_17 (by unfold pAfter; first | rw [if_pos (by omega)] | rw [if_neg (by omega)])
  · rw [nI_leI (by omega) (by omega), Nat.not_le] at c7
    refine lv_iload_n hx hb dX1_after_10 rfl (lv_at hl 1 rfl) ?_
    refine lv_iconst (v := (nI 1)) hx hb dX1_after_11 (by decide) ?_
    refine lv_iadd hx hb dX1_after_12 ?_
    rw [show (nI k) + (nI 1) = (nI (k + 1)) from nI_add k 1]
    refine lv_goto (tgt := 17) hx hb dX1_after_13 (by decide) ?_
    exact kRi hx hb hr hlocks dX1_after_17 (by unfold pAfter; first | rw [if_pos (by omega)] | rw [if_neg (by omega)])

set_option maxHeartbeats 4000000 in
set_option maxRecDepth 100000 in
theorem tX1_turn (l : Launch) (dC : Nat → ClassId) (dI : Nat → Nat → Nat) (a b cc d : Int64)  : PMl l yX1_turn wsX1_turn { frames := 0, cells := 0, slots := 0, locals := 0 } [.long a, .long b, .long cc, .long d] (dC, dI) [] [] (pTurn a b cc d) := by
  refine kOf (cc := cX1_turn) (maxL := 8) (ret := (some .long)) (by decide) rfl (Nat.le_of_ble_eq_true rfl) ?_
  intro p e s m below meth c hx hb hr hml hts hown hlocks hB ls hl
  obtain ⟨hP, hK⟩ := hB
  have hl : lv_has ls 8 [(0, .long a), (2, .long b), (4, .long cc), (6, .long d)] := hl
  refine lv_lload_n hx hb dX1_turn_0 rfl (lv_at hl 0 rfl) ?_
  refine lv_lload hx hb dX1_turn_1 (lv_at hl 3 rfl) ?_
  refine lv_lmul hx hb dX1_turn_3 ?_
  refine lv_lload_n hx hb dX1_turn_4 rfl (lv_at hl 1 rfl) ?_
  refine lv_lload hx hb dX1_turn_5 (lv_at hl 2 rfl) ?_
  refine lv_lmul hx hb dX1_turn_7 ?_
  refine lv_lsub hx hb dX1_turn_8 ?_
  exact kRl hx hb hr hlocks dX1_turn_9 rfl

/-- whether the corners' hull holds a point -/
def pHolds (fx fy : Nat → Int64) (n : Nat) (x y : Int64) : Bool := decide (n ≠ 0 ∧ (¬ pF fx fy 1 0 (n - 1) < x * 1 + y * 0 ∧ ¬ pF fx fy (-1) 0 (n - 1) < x * (-1) + y * 0 ∧ ¬ pF fx fy 0 1 (n - 1) < x * 0 + y * 1 ∧ ¬ pF fx fy 0 (-1) (n - 1) < x * 0 + y * (-1)) ∧ ∀ k, k < n → 0 ≤ pEdge fx fy n k x y)
theorem pHolds_iff {fx fy : Nat → Int64} {n : Nat} {x y : Int64} : pHolds fx fy n x y = true ↔ (n ≠ 0 ∧ (¬ pF fx fy 1 0 (n - 1) < x * 1 + y * 0 ∧ ¬ pF fx fy (-1) 0 (n - 1) < x * (-1) + y * 0 ∧ ¬ pF fx fy 0 1 (n - 1) < x * 0 + y * 1 ∧ ¬ pF fx fy 0 (-1) (n - 1) < x * 0 + y * (-1)) ∧ ∀ k, k < n → 0 ≤ pEdge fx fy n k x y) := by unfold pHolds; exact decide_eq_true_iff
theorem kb1 {b : Bool} (h : b = true) : (1 : Int32) = bI b := by rw [h]; rfl
theorem kb0 {b : Bool} (h : ¬ b = true) : (0 : Int32) = bI b := by rw [Bool.eq_false_iff.mpr h]; rfl
set_option maxHeartbeats 4000000 in
set_option maxRecDepth 100000 in
theorem tX1_holds (l : Launch) (dC : Nat → ClassId) (dI : Nat → Nat → Nat) (cJ : ClassId) (h0 ox oy ax ay pn on n : Nat) (fx fy : Nat → Int64) (x y : Int64) (hn : n ≤ 32) : PMi l yX1_holds wsX1_holds { frames := 4, cells := 0, slots := 0, locals := 102 } [.ref h0, .long x, .long y] (dC, dI) [(h0, .inr (1, [.int (nI pn), .ref ox, .ref oy, .int (nI on), .ref ax, .ref ay, .int (nI n)])), (ax, .inl (cJ, 32, .inr (.inl fx))), (ay, .inl (cJ, 32, .inr (.inl fy)))] [(cJ, .long)] (bI (pHolds fx fy n x y)) := by
  refine kOf (cc := cX1_holds) (maxL := 7) (ret := (some .boolean)) (by decide) rfl (Nat.le_of_ble_eq_true rfl) ?_
  intro p e s m below meth c hx hb hr hml hts hown hlocks hB ls hl
  obtain ⟨hP, hK⟩ := hB
  have hl : lv_has ls 7 [(0, .ref h0), (1, .long x), (3, .long y)] := hl
  have hi1 : ∀ w ∈ u_ws RX1 TX1 7, w ∈ wsX1_holds := by decide +kernel
  have f18 := hts (.fieldLink RX1 18 "SweptBoxes$Hull" "xs" "[J") (by decide +kernel)
  have f21 := hts (.fieldLink RX1 21 "SweptBoxes$Hull" "ys" "[J") (by decide +kernel)
  have f31 := hts (.fieldLink RX1 31 "SweptBoxes$Hull" "size" "I") (by decide +kernel)
  refine lv_aload_n hx hb dX1_holds_0 rfl (lv_at hl 0 rfl) ?_
  refine va_get (D := (dC, dI)) (ci := 1) (v := .int (nI n)) (C := RX1) (T := TX1) (N := 7) hx hb hts hi1 hown hK hP 0 rfl rfl 6 (by decide) f31 (fun _ h9 => h9) rfl dX1_holds_1 ?_
  refine lv_if_eq (tgt := 16) hx hb dX1_holds_4 (by decide) (fun c4 => ?_) (fun c4 => ?_)
  · rw [← nI_0, nI_eq (by omega) (by omega)] at c4
    refine lv_iconst (v := (nI 0)) hx hb dX1_holds_16 (by decide) ?_
    exact kRz hx hb hr hlocks dX1_holds_17 (kb0 (fun h => absurd c4 (pHolds_iff.mp h).1))
  · rw [← nI_0, nI_eq (by omega) (by omega)] at c4
    refine lv_aload_n hx hb dX1_holds_7 rfl (lv_at hl 0 rfl) ?_
    refine lv_lload_n hx hb dX1_holds_8 rfl (lv_at hl 1 rfl) ?_
    refine lv_lload_n hx hb dX1_holds_9 rfl (lv_at hl 2 rfl) ?_
    refine kpVi (q0 := 0) (ci := 1) (As := [.long x, .long y]) (rest := []) (WC := [(h0, .inr (1, [.int (nI pn), .ref ox, .ref oy, .int (nI on), .ref ax, .ref ay, .int (nI n)])), (ax, .inl (cJ, 32, .inr (.inl fx))), (ay, .inl (cJ, 32, .inr (.inl fy)))]) (tyC := [(cJ, .long)]) ⟨hx, hb, hml, hown, hts⟩ (tX1_isInRange l dC dI cJ h0 ox oy ax ay pn on n fx fy x y (by omega)) (cwV 2 hts gX1_holds_X1_isInRange rfl rfl rfl (by decide +kernel) ⟨Nat.le_of_ble_eq_true rfl, Nat.le_of_ble_eq_true rfl⟩) (kPick (isC := [0, 1, 2]) hP rfl) (hK.sub [0] rfl) rfl rfl rfl rfl hl.1 (Nat.le_of_ble_eq_true rfl) dX1_holds_10 ⟨Nat.le_of_ble_eq_true rfl, Nat.le_of_ble_eq_true rfl⟩ ?_
    refine lv_if_ne (tgt := 18) hx hb dX1_holds_13 (by decide) (fun c13 => ?_) (fun c13 => ?_)
    · replace c13 := bI_n c13; replace c13 := of_decide_eq_true c13
      refine lv_iconst (v := (nI 0)) hx hb dX1_holds_18 (by decide) ?_
      refine lv_istore (lv' := [(5, .int (nI 0)), (0, .ref h0), (1, .long x), (3, .long y)]) hx hb dX1_holds_19 hl (by decide) rfl (fun ls hl => ?_)
      refine kLoop (σ := Nat) (fun xz H locs ls => match xz with | k => (H = s.heap) ∧ (locs = []) ∧ (lv_has ls 7 [(0, .ref h0), (1, .long x), (3, .long y), (5, .int (nI k))]) ∧ (k ≤ n ∧ ∀ j, j < k → 0 ≤ pEdge fx fy n j x y)) (fun xz => match xz with | k => n - k) ?_ (0) ?_
      · rintro k H locs ls hI ih21
        obtain ⟨hHe, hLe, hl, hi21_⟩ := hI
        subst hHe
        subst hLe
        obtain ⟨hk, hall⟩ := hi21_
        refine lv_iload hx hb dX1_holds_21 (lv_at hl 3 rfl) ?_
        refine lv_aload_n hx hb dX1_holds_23 rfl (lv_at hl 0 rfl) ?_
        refine va_get (D := (dC, dI)) (ci := 1) (v := .int (nI n)) (C := RX1) (T := TX1) (N := 7) hx hb hts hi1 hown hK hP 0 rfl rfl 6 (by decide) f31 (fun _ h9 => h9) rfl dX1_holds_24 ?_
        refine lv_icmp_ge (tgt := 102) hx hb dX1_holds_27 (by decide) (fun c27 => ?_) (fun c27 => ?_)
        · rw [nI_leI (by omega) (by omega)] at c27
          refine lv_iconst (v := (nI 1)) hx hb dX1_holds_102 (by decide) ?_
          exact kRz hx hb hr hlocks dX1_holds_103 (kb1 (pHolds_iff.mpr ⟨by omega, c13, fun j hj => hall j (by omega)⟩))
        · rw [nI_leI (by omega) (by omega), Nat.not_le] at c27
          have hpa : pAfter n k < n := pAfter_lt c27
          refine lv_aload_n hx hb dX1_holds_30 rfl (lv_at hl 0 rfl) ?_
          refine lv_iload hx hb dX1_holds_31 (lv_at hl 3 rfl) ?_
          refine kpVi (q0 := 0) (ci := 1) (As := [.int (nI k)]) (rest := []) (WC := [(h0, .inr (1, [.int (nI pn), .ref ox, .ref oy, .int (nI on), .ref ax, .ref ay, .int (nI n)])), (ax, .inl (cJ, 32, .inr (.inl fx))), (ay, .inl (cJ, 32, .inr (.inl fy)))]) (tyC := [(cJ, .long)]) ⟨hx, hb, hml, hown, hts⟩ (tX1_after l dC dI cJ h0 ox oy ax ay pn on n fx fy k (by omega) (by omega)) (cwV 1 hts gX1_holds_X1_after rfl rfl rfl (by decide +kernel) ⟨Nat.le_of_ble_eq_true rfl, Nat.le_of_ble_eq_true rfl⟩) (kPick (isC := [0, 1, 2]) hP rfl) (hK.sub [0] rfl) rfl rfl rfl rfl hl.1 (Nat.le_of_ble_eq_true rfl) dX1_holds_33 ⟨Nat.le_of_ble_eq_true rfl, Nat.le_of_ble_eq_true rfl⟩ ?_
          refine lv_istore (lv' := [(6, .int (nI (pAfter n k))), (0, .ref h0), (1, .long x), (3, .long y), (5, .int (nI k))]) hx hb dX1_holds_36 hl (by decide) rfl (fun ls hl => ?_)
          refine lv_aload_n hx hb dX1_holds_38 rfl (lv_at hl 1 rfl) ?_
          refine va_get (D := (dC, dI)) (ci := 1) (v := .ref ax) (C := RX1) (T := TX1) (N := 7) hx hb hts hi1 hown hK hP 0 rfl rfl 4 (by decide) f18 (fun _ h9 => h9) rfl dX1_holds_39 ?_
          refine lv_iload hx hb dX1_holds_42 (lv_at hl 0 rfl) ?_
          refine va_lald hx hb hK hP 1 0 rfl rfl (vp_in_nI (show (pAfter n k) < 32 by omega) (by omega)) dX1_holds_44 ?_
          rw [show (nI (pAfter n k)).toNatClampNeg = (pAfter n k) from nI_clamp (show (pAfter n k) < 2 ^ 31 by omega)]
          refine lv_aload_n hx hb dX1_holds_45 rfl (lv_at hl 1 rfl) ?_
          refine va_get (D := (dC, dI)) (ci := 1) (v := .ref ax) (C := RX1) (T := TX1) (N := 7) hx hb hts hi1 hown hK hP 0 rfl rfl 4 (by decide) f18 (fun _ h9 => h9) rfl dX1_holds_46 ?_
          refine lv_iload hx hb dX1_holds_49 (lv_at hl 4 rfl) ?_
          refine va_lald hx hb hK hP 1 0 rfl rfl (vp_in_nI (show k < 32 by omega) (by omega)) dX1_holds_51 ?_
          rw [show (nI k).toNatClampNeg = k from nI_clamp (show k < 2 ^ 31 by omega)]
          refine lv_lsub hx hb dX1_holds_52 ?_
          refine lv_aload_n hx hb dX1_holds_53 rfl (lv_at hl 1 rfl) ?_
          refine va_get (D := (dC, dI)) (ci := 1) (v := .ref ay) (C := RX1) (T := TX1) (N := 7) hx hb hts hi1 hown hK hP 0 rfl rfl 5 (by decide) f21 (fun _ h9 => h9) rfl dX1_holds_54 ?_
          refine lv_iload hx hb dX1_holds_57 (lv_at hl 0 rfl) ?_
          refine va_lald hx hb hK hP 2 0 rfl rfl (vp_in_nI (show (pAfter n k) < 32 by omega) (by omega)) dX1_holds_59 ?_
          rw [show (nI (pAfter n k)).toNatClampNeg = (pAfter n k) from nI_clamp (show (pAfter n k) < 2 ^ 31 by omega)]
          refine lv_aload_n hx hb dX1_holds_60 rfl (lv_at hl 1 rfl) ?_
          refine va_get (D := (dC, dI)) (ci := 1) (v := .ref ay) (C := RX1) (T := TX1) (N := 7) hx hb hts hi1 hown hK hP 0 rfl rfl 5 (by decide) f21 (fun _ h9 => h9) rfl dX1_holds_61 ?_
          refine lv_iload hx hb dX1_holds_64 (lv_at hl 4 rfl) ?_
          refine va_lald hx hb hK hP 2 0 rfl rfl (vp_in_nI (show k < 32 by omega) (by omega)) dX1_holds_66 ?_
          rw [show (nI k).toNatClampNeg = k from nI_clamp (show k < 2 ^ 31 by omega)]
          refine lv_lsub hx hb dX1_holds_67 ?_
          refine lv_lload_n hx hb dX1_holds_68 rfl (lv_at hl 2 rfl) ?_
          refine lv_aload_n hx hb dX1_holds_69 rfl (lv_at hl 1 rfl) ?_
          refine va_get (D := (dC, dI)) (ci := 1) (v := .ref ax) (C := RX1) (T := TX1) (N := 7) hx hb hts hi1 hown hK hP 0 rfl rfl 4 (by decide) f18 (fun _ h9 => h9) rfl dX1_holds_70 ?_
          refine lv_iload hx hb dX1_holds_73 (lv_at hl 4 rfl) ?_
          refine va_lald hx hb hK hP 1 0 rfl rfl (vp_in_nI (show k < 32 by omega) (by omega)) dX1_holds_75 ?_
          rw [show (nI k).toNatClampNeg = k from nI_clamp (show k < 2 ^ 31 by omega)]
          refine lv_lsub hx hb dX1_holds_76 ?_
          refine lv_lload_n hx hb dX1_holds_77 rfl (lv_at hl 3 rfl) ?_
          refine lv_aload_n hx hb dX1_holds_78 rfl (lv_at hl 1 rfl) ?_
          refine va_get (D := (dC, dI)) (ci := 1) (v := .ref ay) (C := RX1) (T := TX1) (N := 7) hx hb hts hi1 hown hK hP 0 rfl rfl 5 (by decide) f21 (fun _ h9 => h9) rfl dX1_holds_79 ?_
          refine lv_iload hx hb dX1_holds_82 (lv_at hl 4 rfl) ?_
          refine va_lald hx hb hK hP 2 0 rfl rfl (vp_in_nI (show k < 32 by omega) (by omega)) dX1_holds_84 ?_
          rw [show (nI k).toNatClampNeg = k from nI_clamp (show k < 2 ^ 31 by omega)]
          refine lv_lsub hx hb dX1_holds_85 ?_
          refine kpSl (As := [.long ((fx ((pAfter n k))) - (fx k)), .long ((fy ((pAfter n k))) - (fy k)), .long (x - (fx k)), .long (y - (fy k))]) (rest := []) (WC := []) (tyC := []) ⟨hx, hb, hml, hown, hts⟩ (tX1_turn l dC dI ((fx ((pAfter n k))) - (fx k)) ((fy ((pAfter n k))) - (fy k)) (x - (fx k)) (y - (fy k))) (cwS 4 hts gX1_holds_X1_turn rfl rfl rfl (by decide +kernel) ⟨Nat.le_of_ble_eq_true rfl, Nat.le_of_ble_eq_true rfl⟩) (kPick (isC := []) hP rfl) (hK.sub [] rfl) rfl rfl hl.1 (Nat.le_of_ble_eq_true rfl) dX1_holds_86 ⟨Nat.le_of_ble_eq_true rfl, Nat.le_of_ble_eq_true rfl⟩ ?_
          refine lv_lconst (v := 0) hx hb dX1_holds_89 (by decide) ?_
          refine W.lcmp hx hb dX1_holds_90 ?_
          refine lv_if_ge (tgt := 96) hx hb dX1_holds_91 (by decide) (fun c91 => ?_) (fun c91 => ?_)
          · rw [lg_cmp_ge] at c91
            refine lv_iinc (v := (nI (k + 1))) (lv' := [(5, .int (nI (k + 1))), (6, .int (nI (pAfter n k))), (0, .ref h0), (1, .long x), (3, .long y)]) hx hb dX1_holds_96 hl (k := 4) rfl (show (nI k) + Int32.ofInt 1 = nI (k + 1) from nI_add k 1) (by decide) rfl (fun ls hl => ?_)
            refine lv_goto (tgt := 21) hx hb dX1_holds_99 (by decide) ?_
            exact ih21 (k + 1) _ _ _ ⟨rfl, rfl, lv_sub hl [2, 3, 4, 0] rfl, ⟨by omega, fun j hj => by rcases Nat.lt_or_ge j k with h | h; exact hall j h; rw [show j = k by omega]; exact c91⟩⟩ (by simp only []; omega)
          · rw [lg_cmp_ge, Int64.not_le] at c91
            refine lv_iconst (v := (nI 0)) hx hb dX1_holds_94 (by decide) ?_
            exact kRz hx hb hr hlocks dX1_holds_95 (kb0 (fun h => absurd ((pHolds_iff.mp h).2.2 k c27) (Int64.not_le.mpr c91)))
      · exact ⟨rfl, rfl, lv_sub hl [1, 2, 3, 0] rfl, ⟨Nat.zero_le _, fun j h => absurd h (Nat.not_lt_zero j)⟩⟩
    · replace c13 := bI_0 c13; replace c13 := of_decide_eq_false c13
      refine lv_iconst (v := (nI 0)) hx hb dX1_holds_16 (by decide) ?_
      exact kRz hx hb hr hlocks dX1_holds_17 (kb0 (fun h => absurd (pHolds_iff.mp h).2.1 c13))

/-- a point put among the first p of the outer ones, by x and then y -/
def pInsX : Nat → (Nat → Int64) → (Nat → Int64) → Int64 → Int64 → (Nat → Int64)
  | 0, gx, _, x, _ => vp_updL gx 0 x
  | q + 1, gx, gy, x, y => if x < gx q ∨ (gx q = x ∧ y < gy q) then pInsX q (vp_updL gx (q + 1) (gx q)) (vp_updL gy (q + 1) (gy q)) x y else vp_updL gx (q + 1) x
def pInsY : Nat → (Nat → Int64) → (Nat → Int64) → Int64 → Int64 → (Nat → Int64)
  | 0, _, gy, _, y => vp_updL gy 0 y
  | q + 1, gx, gy, x, y => if x < gx q ∨ (gx q = x ∧ y < gy q) then pInsY q (vp_updL gx (q + 1) (gx q)) (vp_updL gy (q + 1) (gy q)) x y else vp_updL gy (q + 1) y
theorem pInsX_s {q : Nat} {gx gy : Nat → Int64} {x y : Int64} (h : 0 < q) (hc : x < gx (q - 1) ∨ (gx (q - 1) = x ∧ y < gy (q - 1))) : pInsX q gx gy x y = pInsX (q - 1) (vp_updL gx q (gx (q - 1))) (vp_updL gy q (gy (q - 1))) x y := by
  cases q with
  | zero => omega
  | succ q => simp only [Nat.add_sub_cancel] at hc ⊢; rw [pInsX, if_pos hc]
theorem pInsY_s {q : Nat} {gx gy : Nat → Int64} {x y : Int64} (h : 0 < q) (hc : x < gx (q - 1) ∨ (gx (q - 1) = x ∧ y < gy (q - 1))) : pInsY q gx gy x y = pInsY (q - 1) (vp_updL gx q (gx (q - 1))) (vp_updL gy q (gy (q - 1))) x y := by
  cases q with
  | zero => omega
  | succ q => simp only [Nat.add_sub_cancel] at hc ⊢; rw [pInsY, if_pos hc]
theorem pInsX_e {q : Nat} {gx gy : Nat → Int64} {x y : Int64} (h : q ≤ 0 ∨ ¬ (x < gx (q - 1) ∨ (gx (q - 1) = x ∧ y < gy (q - 1)))) : pInsX q gx gy x y = vp_updL gx q x := by
  cases q with
  | zero => rfl
  | succ q => simp only [Nat.add_sub_cancel] at h; rw [pInsX, if_neg (h.resolve_left (by omega))]
theorem pInsY_e {q : Nat} {gx gy : Nat → Int64} {x y : Int64} (h : q ≤ 0 ∨ ¬ (x < gx (q - 1) ∨ (gx (q - 1) = x ∧ y < gy (q - 1)))) : pInsY q gx gy x y = vp_updL gy q y := by
  cases q with
  | zero => rfl
  | succ q => simp only [Nat.add_sub_cancel] at h; rw [pInsY, if_neg (h.resolve_left (by omega))]
set_option maxHeartbeats 4000000 in
set_option maxRecDepth 100000 in
theorem tX1_insertOuter (l : Launch) (dC : Nat → ClassId) (dI : Nat → Nat → Nat) (cJ : ClassId) (h0 ox oy ax ay pn on n : Nat) (fox foy fx fy : Nat → Int64) (x y : Int64) (ho : on < 16) : MMv l yX1_insertOuter wsX1_insertOuter { frames := 0, cells := 0, slots := 0, locals := 0 } [.ref h0, .long x, .long y] (dC, dI) [(h0, .inr (1, [.int (nI pn), .ref ox, .ref oy, .int (nI on), .ref ax, .ref ay, .int (nI n)])), (ox, .inl (cJ, 16, .inr (.inl fox))), (oy, .inl (cJ, 16, .inr (.inl foy))), (ax, .inl (cJ, 32, .inr (.inl fx))), (ay, .inl (cJ, 32, .inr (.inl fy)))] [(h0, .inr (1, [.int (nI pn), .ref ox, .ref oy, .int (nI (on + 1)), .ref ax, .ref ay, .int (nI n)])), (ox, .inl (cJ, 16, .inr (.inl (pInsX on fox foy x y)))), (oy, .inl (cJ, 16, .inr (.inl (pInsY on fox foy x y)))), (ax, .inl (cJ, 32, .inr (.inl fx))), (ay, .inl (cJ, 32, .inr (.inl fy)))] [(cJ, .long)] := by
  intro sz
  refine kOf (cc := cX1_insertOuter) (maxL := 6) (ret := none) (by decide) rfl (Nat.le_of_ble_eq_true rfl) ?_
  intro p e s m below meth c hx hb hr hml hts hown hlocks hB ls hl
  obtain ⟨hsz, hP, hK, hD0⟩ := hB
  subst hsz
  have hD := hD0.self (sz := s.heap.size)
  generalize hAe : va_A [(h0, .inr (1, [.int (nI pn), .ref ox, .ref oy, .int (nI on), .ref ax, .ref ay, .int (nI n)])), (ox, .inl (cJ, 16, .inr (.inl fox))), (oy, .inl (cJ, 16, .inr (.inl foy))), (ax, .inl (cJ, 32, .inr (.inl fx))), (ay, .inl (cJ, 32, .inr (.inl fy)))] s.heap.size = A at hD ⊢
  have hA : ∀ q : Nat, s.heap.size ≤ q → A q := fun q h => by rw [← hAe]; exact Or.inr h
  have hS : va_S A s.heap s.heap [] := va_S.rf
  have hl : lv_has ls 6 [(0, .ref h0), (1, .long x), (3, .long y)] := hl
  have hi1 : ∀ w ∈ u_ws RX1 TX1 7, w ∈ wsX1_insertOuter := by decide +kernel
  have f9 := hts (.fieldLink RX1 9 "SweptBoxes$Hull" "outerXs" "[J") (by decide +kernel)
  have f15 := hts (.fieldLink RX1 15 "SweptBoxes$Hull" "outerYs" "[J") (by decide +kernel)
  have f28 := hts (.fieldLink RX1 28 "SweptBoxes$Hull" "outerCount" "I") (by decide +kernel)
  refine lv_aload_n hx hb dX1_insertOuter_0 rfl (lv_at hl 0 rfl) ?_
  refine va_get (D := (dC, dI)) (ci := 1) (v := .int (nI on)) (C := RX1) (T := TX1) (N := 7) hx hb hts hi1 hown hK hP 0 rfl rfl 3 (by decide) f28 (fun _ h9 => h9) rfl dX1_insertOuter_1 ?_
  refine lv_istore (lv' := [(5, .int (nI on)), (0, .ref h0), (1, .long x), (3, .long y)]) hx hb dX1_insertOuter_4 hl (by decide) rfl (fun ls hl => ?_)
  refine kLoop (σ := Nat × (Nat → Int64) × (Nat → Int64)) (fun xz H locs ls => match xz with | (pl, gx, gy) => (va_P (dC, dI) vwCl [(h0, .inr (1, [.int (nI pn), .ref ox, .ref oy, .int (nI on), .ref ax, .ref ay, .int (nI n)])), (ox, .inl (cJ, 16, .inr (.inl gx))), (oy, .inl (cJ, 16, .inr (.inl gy))), (ax, .inl (cJ, 32, .inr (.inl fx))), (ay, .inl (cJ, 32, .inr (.inl fy)))] H) ∧ (va_D A [(h0, .inr (1, [.int (nI pn), .ref ox, .ref oy, .int (nI on), .ref ax, .ref ay, .int (nI n)])), (ox, .inl (cJ, 16, .inr (.inl gx))), (oy, .inl (cJ, 16, .inr (.inl gy))), (ax, .inl (cJ, 32, .inr (.inl fx))), (ay, .inl (cJ, 32, .inr (.inl fy)))]) ∧ (va_S A s.heap H locs) ∧ (lv_has ls 6 [(0, .ref h0), (1, .long x), (3, .long y), (5, .int (nI pl))]) ∧ (pl ≤ on ∧ pInsX pl gx gy x y = pInsX on fox foy x y ∧ pInsY pl gx gy x y = pInsY on fox foy x y)) (fun xz => match xz with | (pl, gx, gy) => pl) ?_ (on, fox, foy) ?_
  · rintro ⟨pl, gx, gy⟩ H locs ls hI ih6
    obtain ⟨hP, hD, hS, hl, hi6_⟩ := hI
    obtain ⟨hle, hX, hY⟩ := hi6_
    refine lv_iload hx hb dX1_insertOuter_6 (lv_at hl 3 rfl) ?_
    refine lv_if_le (tgt := 91) hx hb dX1_insertOuter_8 (by decide) (fun c8 => ?_) (fun c8 => ?_)
    · rw [← nI_0, nI_leI (by omega) (by omega)] at c8
      refine lv_aload_n hx hb dX1_insertOuter_91 rfl (lv_at hl 0 rfl) ?_
      refine va_get (D := (dC, dI)) (ci := 1) (v := .ref ox) (C := RX1) (T := TX1) (N := 7) hx hb hts hi1 hown hK hP 0 rfl rfl 1 (by decide) f9 (fun _ h9 => h9) rfl dX1_insertOuter_92 ?_
      refine lv_iload hx hb dX1_insertOuter_95 (lv_at hl 3 rfl) ?_
      refine lv_lload_n hx hb dX1_insertOuter_97 rfl (lv_at hl 1 rfl) ?_
      refine va_last hx hb hK hP hD hS 1 0 rfl rfl (vp_in_nI (show pl < 16 by omega) (by omega)) dX1_insertOuter_98 (fun H locs hP hD hS => ?_)
      rw [show (nI pl).toNatClampNeg = pl from nI_clamp (show pl < 2 ^ 31 by omega)] at hP hD
      have hP : va_P (dC, dI) vwCl [(h0, .inr (1, [.int (nI pn), .ref ox, .ref oy, .int (nI on), .ref ax, .ref ay, .int (nI n)])), (ox, .inl (cJ, 16, .inr (.inl (vp_updL gx pl x)))), (oy, .inl (cJ, 16, .inr (.inl gy))), (ax, .inl (cJ, 32, .inr (.inl fx))), (ay, .inl (cJ, 32, .inr (.inl fy)))] H := hP
      have hD : va_D A [(h0, .inr (1, [.int (nI pn), .ref ox, .ref oy, .int (nI on), .ref ax, .ref ay, .int (nI n)])), (ox, .inl (cJ, 16, .inr (.inl (vp_updL gx pl x)))), (oy, .inl (cJ, 16, .inr (.inl gy))), (ax, .inl (cJ, 32, .inr (.inl fx))), (ay, .inl (cJ, 32, .inr (.inl fy)))] := hD
      refine lv_aload_n hx hb dX1_insertOuter_99 rfl (lv_at hl 0 rfl) ?_
      refine va_get (D := (dC, dI)) (ci := 1) (v := .ref oy) (C := RX1) (T := TX1) (N := 7) hx hb hts hi1 hown hK hP 0 rfl rfl 2 (by decide) f15 (fun _ h9 => h9) rfl dX1_insertOuter_100 ?_
      refine lv_iload hx hb dX1_insertOuter_103 (lv_at hl 3 rfl) ?_
      refine lv_lload_n hx hb dX1_insertOuter_105 rfl (lv_at hl 2 rfl) ?_
      refine va_last hx hb hK hP hD hS 2 0 rfl rfl (vp_in_nI (show pl < 16 by omega) (by omega)) dX1_insertOuter_106 (fun H locs hP hD hS => ?_)
      rw [show (nI pl).toNatClampNeg = pl from nI_clamp (show pl < 2 ^ 31 by omega)] at hP hD
      have hP : va_P (dC, dI) vwCl [(h0, .inr (1, [.int (nI pn), .ref ox, .ref oy, .int (nI on), .ref ax, .ref ay, .int (nI n)])), (ox, .inl (cJ, 16, .inr (.inl (vp_updL gx pl x)))), (oy, .inl (cJ, 16, .inr (.inl (vp_updL gy pl y)))), (ax, .inl (cJ, 32, .inr (.inl fx))), (ay, .inl (cJ, 32, .inr (.inl fy)))] H := hP
      have hD : va_D A [(h0, .inr (1, [.int (nI pn), .ref ox, .ref oy, .int (nI on), .ref ax, .ref ay, .int (nI n)])), (ox, .inl (cJ, 16, .inr (.inl (vp_updL gx pl x)))), (oy, .inl (cJ, 16, .inr (.inl (vp_updL gy pl y)))), (ax, .inl (cJ, 32, .inr (.inl fx))), (ay, .inl (cJ, 32, .inr (.inl fy)))] := hD
      refine lv_aload_n hx hb dX1_insertOuter_107 rfl (lv_at hl 0 rfl) ?_
      refine lv_dup hx hb dX1_insertOuter_108 rfl ?_
      refine va_get (D := (dC, dI)) (ci := 1) (v := .int (nI on)) (C := RX1) (T := TX1) (N := 7) hx hb hts hi1 hown hK hP 0 rfl rfl 3 (by decide) f28 (fun _ h9 => h9) rfl dX1_insertOuter_109 ?_
      refine lv_iconst (v := (nI 1)) hx hb dX1_insertOuter_112 (by decide) ?_
      refine lv_iadd hx hb dX1_insertOuter_113 ?_
      rw [show (nI on) + (nI 1) = (nI (on + 1)) from nI_add on 1]
      refine va_put (D := (dC, dI)) (ci := 1) (v := .int (nI (on + 1))) (ty := .int) (C := RX1) (T := TX1) (N := 7) hx hb hts hi1 tyX1 tyX1_ok nmX1 hown hK hP hD hS 0 rfl rfl 3 (by decide) f28 (fun _ h9 => h9) rfl (by decide +kernel) rfl rfl (Nat.le_of_ble_eq_true rfl) dX1_insertOuter_114 (fun H locs hP hD hS => ?_)
      have hP : va_P (dC, dI) vwCl [(h0, .inr (1, [.int (nI pn), .ref ox, .ref oy, .int (nI (on + 1)), .ref ax, .ref ay, .int (nI n)])), (ox, .inl (cJ, 16, .inr (.inl (vp_updL gx pl x)))), (oy, .inl (cJ, 16, .inr (.inl (vp_updL gy pl y)))), (ax, .inl (cJ, 32, .inr (.inl fx))), (ay, .inl (cJ, 32, .inr (.inl fy)))] H := hP
      have hD : va_D A [(h0, .inr (1, [.int (nI pn), .ref ox, .ref oy, .int (nI (on + 1)), .ref ax, .ref ay, .int (nI n)])), (ox, .inl (cJ, 16, .inr (.inl (vp_updL gx pl x)))), (oy, .inl (cJ, 16, .inr (.inl (vp_updL gy pl y)))), (ax, .inl (cJ, 32, .inr (.inl fx))), (ay, .inl (cJ, 32, .inr (.inl fy)))] := hD
      have hq0 : (pInsX on fox foy x y) = (vp_updL gx pl x) := (by first | (rw [← hX]; exact pInsX_e (by first | exact Or.inl c8 | exact Or.inr (fun h => h.elim (fun h => absurd h (Int64.not_lt.mpr c22)) (fun h => absurd h.1 c36)) | exact Or.inr (fun h => h.elim (fun h => absurd h (Int64.not_lt.mpr c22)) (fun h => absurd h.2 (Int64.not_lt.mpr c50))))) | (rw [← hY]; exact pInsY_e (by first | exact Or.inl c8 | exact Or.inr (fun h => h.elim (fun h => absurd h (Int64.not_lt.mpr c22)) (fun h => absurd h.1 c36)) | exact Or.inr (fun h => h.elim (fun h => absurd h (Int64.not_lt.mpr c22)) (fun h => absurd h.2 (Int64.not_lt.mpr c50))))))
      have hq1 : (pInsY on fox foy x y) = (vp_updL gy pl y) := (by first | (rw [← hX]; exact pInsX_e (by first | exact Or.inl c8 | exact Or.inr (fun h => h.elim (fun h => absurd h (Int64.not_lt.mpr c22)) (fun h => absurd h.1 c36)) | exact Or.inr (fun h => h.elim (fun h => absurd h (Int64.not_lt.mpr c22)) (fun h => absurd h.2 (Int64.not_lt.mpr c50))))) | (rw [← hY]; exact pInsY_e (by first | exact Or.inl c8 | exact Or.inr (fun h => h.elim (fun h => absurd h (Int64.not_lt.mpr c22)) (fun h => absurd h.1 c36)) | exact Or.inr (fun h => h.elim (fun h => absurd h (Int64.not_lt.mpr c22)) (fun h => absurd h.2 (Int64.not_lt.mpr c50))))))
      have hw : ([(h0, .inr (1, [.int (nI pn), .ref ox, .ref oy, .int (nI (on + 1)), .ref ax, .ref ay, .int (nI n)])), (ox, .inl (cJ, 16, .inr (.inl (vp_updL gx pl x)))), (oy, .inl (cJ, 16, .inr (.inl (vp_updL gy pl y)))), (ax, .inl (cJ, 32, .inr (.inl fx))), (ay, .inl (cJ, 32, .inr (.inl fy)))] : va_W) = [(h0, .inr (1, [.int (nI pn), .ref ox, .ref oy, .int (nI (on + 1)), .ref ax, .ref ay, .int (nI n)])), (ox, .inl (cJ, 16, .inr (.inl (pInsX on fox foy x y)))), (oy, .inl (cJ, 16, .inr (.inl (pInsY on fox foy x y)))), (ax, .inl (cJ, 32, .inr (.inl fx))), (ay, .inl (cJ, 32, .inr (.inl fy)))] := by rw [hq0, hq1]
      rw [hw] at hP hD
      exact kEv hx hb hr hlocks hP hK hD hS dX1_insertOuter_117
    · rw [← nI_0, nI_leI (by omega) (by omega), Nat.not_le] at c8
      refine lv_aload_n hx hb dX1_insertOuter_11 rfl (lv_at hl 0 rfl) ?_
      refine va_get (D := (dC, dI)) (ci := 1) (v := .ref ox) (C := RX1) (T := TX1) (N := 7) hx hb hts hi1 hown hK hP 0 rfl rfl 1 (by decide) f9 (fun _ h9 => h9) rfl dX1_insertOuter_12 ?_
      refine lv_iload hx hb dX1_insertOuter_15 (lv_at hl 3 rfl) ?_
      refine lv_iconst (v := (nI 1)) hx hb dX1_insertOuter_17 (by decide) ?_
      refine lv_isub hx hb dX1_insertOuter_18 ?_
      rw [show (nI pl) - (nI 1) = (nI (pl - 1)) from pk_sub (show 1 ≤ pl by omega)]
      refine va_lald hx hb hK hP 1 0 rfl rfl (vp_in_nI (show (pl - 1) < 16 by omega) (by omega)) dX1_insertOuter_19 ?_
      rw [show (nI (pl - 1)).toNatClampNeg = (pl - 1) from nI_clamp (show (pl - 1) < 2 ^ 31 by omega)]
      refine lv_lload_n hx hb dX1_insertOuter_20 rfl (lv_at hl 1 rfl) ?_
      refine W.lcmp hx hb dX1_insertOuter_21 ?_
      refine lv_if_gt (tgt := 53) hx hb dX1_insertOuter_22 (by decide) (fun c22 => ?_) (fun c22 => ?_)
      · rw [lg_cmp_gt] at c22
        refine lv_aload_n hx hb dX1_insertOuter_53 rfl (lv_at hl 0 rfl) ?_
        refine va_get (D := (dC, dI)) (ci := 1) (v := .ref ox) (C := RX1) (T := TX1) (N := 7) hx hb hts hi1 hown hK hP 0 rfl rfl 1 (by decide) f9 (fun _ h9 => h9) rfl dX1_insertOuter_54 ?_
        refine lv_iload hx hb dX1_insertOuter_57 (lv_at hl 3 rfl) ?_
        refine lv_aload_n hx hb dX1_insertOuter_59 rfl (lv_at hl 0 rfl) ?_
        refine va_get (D := (dC, dI)) (ci := 1) (v := .ref ox) (C := RX1) (T := TX1) (N := 7) hx hb hts hi1 hown hK hP 0 rfl rfl 1 (by decide) f9 (fun _ h9 => h9) rfl dX1_insertOuter_60 ?_
        refine lv_iload hx hb dX1_insertOuter_63 (lv_at hl 3 rfl) ?_
        refine lv_iconst (v := (nI 1)) hx hb dX1_insertOuter_65 (by decide) ?_
        refine lv_isub hx hb dX1_insertOuter_66 ?_
        rw [show (nI pl) - (nI 1) = (nI (pl - 1)) from pk_sub (show 1 ≤ pl by omega)]
        refine va_lald hx hb hK hP 1 0 rfl rfl (vp_in_nI (show (pl - 1) < 16 by omega) (by omega)) dX1_insertOuter_67 ?_
        rw [show (nI (pl - 1)).toNatClampNeg = (pl - 1) from nI_clamp (show (pl - 1) < 2 ^ 31 by omega)]
        refine va_last hx hb hK hP hD hS 1 0 rfl rfl (vp_in_nI (show pl < 16 by omega) (by omega)) dX1_insertOuter_68 (fun H locs hP hD hS => ?_)
        rw [show (nI pl).toNatClampNeg = pl from nI_clamp (show pl < 2 ^ 31 by omega)] at hP hD
        have hP : va_P (dC, dI) vwCl [(h0, .inr (1, [.int (nI pn), .ref ox, .ref oy, .int (nI on), .ref ax, .ref ay, .int (nI n)])), (ox, .inl (cJ, 16, .inr (.inl (vp_updL gx pl (gx ((pl - 1))))))), (oy, .inl (cJ, 16, .inr (.inl gy))), (ax, .inl (cJ, 32, .inr (.inl fx))), (ay, .inl (cJ, 32, .inr (.inl fy)))] H := hP
        have hD : va_D A [(h0, .inr (1, [.int (nI pn), .ref ox, .ref oy, .int (nI on), .ref ax, .ref ay, .int (nI n)])), (ox, .inl (cJ, 16, .inr (.inl (vp_updL gx pl (gx ((pl - 1))))))), (oy, .inl (cJ, 16, .inr (.inl gy))), (ax, .inl (cJ, 32, .inr (.inl fx))), (ay, .inl (cJ, 32, .inr (.inl fy)))] := hD
        refine lv_aload_n hx hb dX1_insertOuter_69 rfl (lv_at hl 0 rfl) ?_
        refine va_get (D := (dC, dI)) (ci := 1) (v := .ref oy) (C := RX1) (T := TX1) (N := 7) hx hb hts hi1 hown hK hP 0 rfl rfl 2 (by decide) f15 (fun _ h9 => h9) rfl dX1_insertOuter_70 ?_
        refine lv_iload hx hb dX1_insertOuter_73 (lv_at hl 3 rfl) ?_
        refine lv_aload_n hx hb dX1_insertOuter_75 rfl (lv_at hl 0 rfl) ?_
        refine va_get (D := (dC, dI)) (ci := 1) (v := .ref oy) (C := RX1) (T := TX1) (N := 7) hx hb hts hi1 hown hK hP 0 rfl rfl 2 (by decide) f15 (fun _ h9 => h9) rfl dX1_insertOuter_76 ?_
        refine lv_iload hx hb dX1_insertOuter_79 (lv_at hl 3 rfl) ?_
        refine lv_iconst (v := (nI 1)) hx hb dX1_insertOuter_81 (by decide) ?_
        refine lv_isub hx hb dX1_insertOuter_82 ?_
        rw [show (nI pl) - (nI 1) = (nI (pl - 1)) from pk_sub (show 1 ≤ pl by omega)]
        refine va_lald hx hb hK hP 2 0 rfl rfl (vp_in_nI (show (pl - 1) < 16 by omega) (by omega)) dX1_insertOuter_83 ?_
        rw [show (nI (pl - 1)).toNatClampNeg = (pl - 1) from nI_clamp (show (pl - 1) < 2 ^ 31 by omega)]
        refine va_last hx hb hK hP hD hS 2 0 rfl rfl (vp_in_nI (show pl < 16 by omega) (by omega)) dX1_insertOuter_84 (fun H locs hP hD hS => ?_)
        rw [show (nI pl).toNatClampNeg = pl from nI_clamp (show pl < 2 ^ 31 by omega)] at hP hD
        have hP : va_P (dC, dI) vwCl [(h0, .inr (1, [.int (nI pn), .ref ox, .ref oy, .int (nI on), .ref ax, .ref ay, .int (nI n)])), (ox, .inl (cJ, 16, .inr (.inl (vp_updL gx pl (gx ((pl - 1))))))), (oy, .inl (cJ, 16, .inr (.inl (vp_updL gy pl (gy ((pl - 1))))))), (ax, .inl (cJ, 32, .inr (.inl fx))), (ay, .inl (cJ, 32, .inr (.inl fy)))] H := hP
        have hD : va_D A [(h0, .inr (1, [.int (nI pn), .ref ox, .ref oy, .int (nI on), .ref ax, .ref ay, .int (nI n)])), (ox, .inl (cJ, 16, .inr (.inl (vp_updL gx pl (gx ((pl - 1))))))), (oy, .inl (cJ, 16, .inr (.inl (vp_updL gy pl (gy ((pl - 1))))))), (ax, .inl (cJ, 32, .inr (.inl fx))), (ay, .inl (cJ, 32, .inr (.inl fy)))] := hD
        refine lv_iinc (v := (nI (pl - 1))) (lv' := [(5, .int (nI (pl - 1))), (0, .ref h0), (1, .long x), (3, .long y)]) hx hb dX1_insertOuter_85 hl (k := 3) rfl (sb_m1 (show 0 < pl by omega)) (by decide) rfl (fun ls hl => ?_)
        refine lv_goto (tgt := 6) hx hb dX1_insertOuter_88 (by decide) ?_
        have hc : x < gx (pl - 1) ∨ (gx (pl - 1) = x ∧ y < gy (pl - 1)) := by first | exact Or.inl c22 | exact Or.inr ⟨c36, c50⟩
        exact ih6 (pl - 1, vp_updL gx pl (gx (pl - 1)), vp_updL gy pl (gy (pl - 1))) _ _ _ ⟨hP, hD, hS, lv_sub hl [1, 2, 3, 0] rfl, ⟨by omega, by rw [← hX, pInsX_s c8 hc], by rw [← hY, pInsY_s c8 hc]⟩⟩ (by simp only []; omega)
      · rw [lg_cmp_gt, Int64.not_lt] at c22
        refine lv_aload_n hx hb dX1_insertOuter_25 rfl (lv_at hl 0 rfl) ?_
        refine va_get (D := (dC, dI)) (ci := 1) (v := .ref ox) (C := RX1) (T := TX1) (N := 7) hx hb hts hi1 hown hK hP 0 rfl rfl 1 (by decide) f9 (fun _ h9 => h9) rfl dX1_insertOuter_26 ?_
        refine lv_iload hx hb dX1_insertOuter_29 (lv_at hl 3 rfl) ?_
        refine lv_iconst (v := (nI 1)) hx hb dX1_insertOuter_31 (by decide) ?_
        refine lv_isub hx hb dX1_insertOuter_32 ?_
        rw [show (nI pl) - (nI 1) = (nI (pl - 1)) from pk_sub (show 1 ≤ pl by omega)]
        refine va_lald hx hb hK hP 1 0 rfl rfl (vp_in_nI (show (pl - 1) < 16 by omega) (by omega)) dX1_insertOuter_33 ?_
        rw [show (nI (pl - 1)).toNatClampNeg = (pl - 1) from nI_clamp (show (pl - 1) < 2 ^ 31 by omega)]
        refine lv_lload_n hx hb dX1_insertOuter_34 rfl (lv_at hl 1 rfl) ?_
        refine W.lcmp hx hb dX1_insertOuter_35 ?_
        refine lv_if_ne (tgt := 91) hx hb dX1_insertOuter_36 (by decide) (fun c36 => ?_) (fun c36 => ?_)
        · simp only [ne_eq, lg_cmp_eq] at c36
          refine lv_aload_n hx hb dX1_insertOuter_91 rfl (lv_at hl 0 rfl) ?_
          refine va_get (D := (dC, dI)) (ci := 1) (v := .ref ox) (C := RX1) (T := TX1) (N := 7) hx hb hts hi1 hown hK hP 0 rfl rfl 1 (by decide) f9 (fun _ h9 => h9) rfl dX1_insertOuter_92 ?_
          refine lv_iload hx hb dX1_insertOuter_95 (lv_at hl 3 rfl) ?_
          refine lv_lload_n hx hb dX1_insertOuter_97 rfl (lv_at hl 1 rfl) ?_
          refine va_last hx hb hK hP hD hS 1 0 rfl rfl (vp_in_nI (show pl < 16 by omega) (by omega)) dX1_insertOuter_98 (fun H locs hP hD hS => ?_)
          rw [show (nI pl).toNatClampNeg = pl from nI_clamp (show pl < 2 ^ 31 by omega)] at hP hD
          have hP : va_P (dC, dI) vwCl [(h0, .inr (1, [.int (nI pn), .ref ox, .ref oy, .int (nI on), .ref ax, .ref ay, .int (nI n)])), (ox, .inl (cJ, 16, .inr (.inl (vp_updL gx pl x)))), (oy, .inl (cJ, 16, .inr (.inl gy))), (ax, .inl (cJ, 32, .inr (.inl fx))), (ay, .inl (cJ, 32, .inr (.inl fy)))] H := hP
          have hD : va_D A [(h0, .inr (1, [.int (nI pn), .ref ox, .ref oy, .int (nI on), .ref ax, .ref ay, .int (nI n)])), (ox, .inl (cJ, 16, .inr (.inl (vp_updL gx pl x)))), (oy, .inl (cJ, 16, .inr (.inl gy))), (ax, .inl (cJ, 32, .inr (.inl fx))), (ay, .inl (cJ, 32, .inr (.inl fy)))] := hD
          refine lv_aload_n hx hb dX1_insertOuter_99 rfl (lv_at hl 0 rfl) ?_
          refine va_get (D := (dC, dI)) (ci := 1) (v := .ref oy) (C := RX1) (T := TX1) (N := 7) hx hb hts hi1 hown hK hP 0 rfl rfl 2 (by decide) f15 (fun _ h9 => h9) rfl dX1_insertOuter_100 ?_
          refine lv_iload hx hb dX1_insertOuter_103 (lv_at hl 3 rfl) ?_
          refine lv_lload_n hx hb dX1_insertOuter_105 rfl (lv_at hl 2 rfl) ?_
          refine va_last hx hb hK hP hD hS 2 0 rfl rfl (vp_in_nI (show pl < 16 by omega) (by omega)) dX1_insertOuter_106 (fun H locs hP hD hS => ?_)
          rw [show (nI pl).toNatClampNeg = pl from nI_clamp (show pl < 2 ^ 31 by omega)] at hP hD
          have hP : va_P (dC, dI) vwCl [(h0, .inr (1, [.int (nI pn), .ref ox, .ref oy, .int (nI on), .ref ax, .ref ay, .int (nI n)])), (ox, .inl (cJ, 16, .inr (.inl (vp_updL gx pl x)))), (oy, .inl (cJ, 16, .inr (.inl (vp_updL gy pl y)))), (ax, .inl (cJ, 32, .inr (.inl fx))), (ay, .inl (cJ, 32, .inr (.inl fy)))] H := hP
          have hD : va_D A [(h0, .inr (1, [.int (nI pn), .ref ox, .ref oy, .int (nI on), .ref ax, .ref ay, .int (nI n)])), (ox, .inl (cJ, 16, .inr (.inl (vp_updL gx pl x)))), (oy, .inl (cJ, 16, .inr (.inl (vp_updL gy pl y)))), (ax, .inl (cJ, 32, .inr (.inl fx))), (ay, .inl (cJ, 32, .inr (.inl fy)))] := hD
          refine lv_aload_n hx hb dX1_insertOuter_107 rfl (lv_at hl 0 rfl) ?_
          refine lv_dup hx hb dX1_insertOuter_108 rfl ?_
          refine va_get (D := (dC, dI)) (ci := 1) (v := .int (nI on)) (C := RX1) (T := TX1) (N := 7) hx hb hts hi1 hown hK hP 0 rfl rfl 3 (by decide) f28 (fun _ h9 => h9) rfl dX1_insertOuter_109 ?_
          refine lv_iconst (v := (nI 1)) hx hb dX1_insertOuter_112 (by decide) ?_
          refine lv_iadd hx hb dX1_insertOuter_113 ?_
          rw [show (nI on) + (nI 1) = (nI (on + 1)) from nI_add on 1]
          refine va_put (D := (dC, dI)) (ci := 1) (v := .int (nI (on + 1))) (ty := .int) (C := RX1) (T := TX1) (N := 7) hx hb hts hi1 tyX1 tyX1_ok nmX1 hown hK hP hD hS 0 rfl rfl 3 (by decide) f28 (fun _ h9 => h9) rfl (by decide +kernel) rfl rfl (Nat.le_of_ble_eq_true rfl) dX1_insertOuter_114 (fun H locs hP hD hS => ?_)
          have hP : va_P (dC, dI) vwCl [(h0, .inr (1, [.int (nI pn), .ref ox, .ref oy, .int (nI (on + 1)), .ref ax, .ref ay, .int (nI n)])), (ox, .inl (cJ, 16, .inr (.inl (vp_updL gx pl x)))), (oy, .inl (cJ, 16, .inr (.inl (vp_updL gy pl y)))), (ax, .inl (cJ, 32, .inr (.inl fx))), (ay, .inl (cJ, 32, .inr (.inl fy)))] H := hP
          have hD : va_D A [(h0, .inr (1, [.int (nI pn), .ref ox, .ref oy, .int (nI (on + 1)), .ref ax, .ref ay, .int (nI n)])), (ox, .inl (cJ, 16, .inr (.inl (vp_updL gx pl x)))), (oy, .inl (cJ, 16, .inr (.inl (vp_updL gy pl y)))), (ax, .inl (cJ, 32, .inr (.inl fx))), (ay, .inl (cJ, 32, .inr (.inl fy)))] := hD
          have hq0 : (pInsX on fox foy x y) = (vp_updL gx pl x) := (by first | (rw [← hX]; exact pInsX_e (by first | exact Or.inl c8 | exact Or.inr (fun h => h.elim (fun h => absurd h (Int64.not_lt.mpr c22)) (fun h => absurd h.1 c36)) | exact Or.inr (fun h => h.elim (fun h => absurd h (Int64.not_lt.mpr c22)) (fun h => absurd h.2 (Int64.not_lt.mpr c50))))) | (rw [← hY]; exact pInsY_e (by first | exact Or.inl c8 | exact Or.inr (fun h => h.elim (fun h => absurd h (Int64.not_lt.mpr c22)) (fun h => absurd h.1 c36)) | exact Or.inr (fun h => h.elim (fun h => absurd h (Int64.not_lt.mpr c22)) (fun h => absurd h.2 (Int64.not_lt.mpr c50))))))
          have hq1 : (pInsY on fox foy x y) = (vp_updL gy pl y) := (by first | (rw [← hX]; exact pInsX_e (by first | exact Or.inl c8 | exact Or.inr (fun h => h.elim (fun h => absurd h (Int64.not_lt.mpr c22)) (fun h => absurd h.1 c36)) | exact Or.inr (fun h => h.elim (fun h => absurd h (Int64.not_lt.mpr c22)) (fun h => absurd h.2 (Int64.not_lt.mpr c50))))) | (rw [← hY]; exact pInsY_e (by first | exact Or.inl c8 | exact Or.inr (fun h => h.elim (fun h => absurd h (Int64.not_lt.mpr c22)) (fun h => absurd h.1 c36)) | exact Or.inr (fun h => h.elim (fun h => absurd h (Int64.not_lt.mpr c22)) (fun h => absurd h.2 (Int64.not_lt.mpr c50))))))
          have hw : ([(h0, .inr (1, [.int (nI pn), .ref ox, .ref oy, .int (nI (on + 1)), .ref ax, .ref ay, .int (nI n)])), (ox, .inl (cJ, 16, .inr (.inl (vp_updL gx pl x)))), (oy, .inl (cJ, 16, .inr (.inl (vp_updL gy pl y)))), (ax, .inl (cJ, 32, .inr (.inl fx))), (ay, .inl (cJ, 32, .inr (.inl fy)))] : va_W) = [(h0, .inr (1, [.int (nI pn), .ref ox, .ref oy, .int (nI (on + 1)), .ref ax, .ref ay, .int (nI n)])), (ox, .inl (cJ, 16, .inr (.inl (pInsX on fox foy x y)))), (oy, .inl (cJ, 16, .inr (.inl (pInsY on fox foy x y)))), (ax, .inl (cJ, 32, .inr (.inl fx))), (ay, .inl (cJ, 32, .inr (.inl fy)))] := by rw [hq0, hq1]
          rw [hw] at hP hD
          exact kEv hx hb hr hlocks hP hK hD hS dX1_insertOuter_117
        · simp only [ne_eq, Decidable.not_not, lg_cmp_eq] at c36
          refine lv_aload_n hx hb dX1_insertOuter_39 rfl (lv_at hl 0 rfl) ?_
          refine va_get (D := (dC, dI)) (ci := 1) (v := .ref oy) (C := RX1) (T := TX1) (N := 7) hx hb hts hi1 hown hK hP 0 rfl rfl 2 (by decide) f15 (fun _ h9 => h9) rfl dX1_insertOuter_40 ?_
          refine lv_iload hx hb dX1_insertOuter_43 (lv_at hl 3 rfl) ?_
          refine lv_iconst (v := (nI 1)) hx hb dX1_insertOuter_45 (by decide) ?_
          refine lv_isub hx hb dX1_insertOuter_46 ?_
          rw [show (nI pl) - (nI 1) = (nI (pl - 1)) from pk_sub (show 1 ≤ pl by omega)]
          refine va_lald hx hb hK hP 2 0 rfl rfl (vp_in_nI (show (pl - 1) < 16 by omega) (by omega)) dX1_insertOuter_47 ?_
          rw [show (nI (pl - 1)).toNatClampNeg = (pl - 1) from nI_clamp (show (pl - 1) < 2 ^ 31 by omega)]
          refine lv_lload_n hx hb dX1_insertOuter_48 rfl (lv_at hl 2 rfl) ?_
          refine W.lcmp hx hb dX1_insertOuter_49 ?_
          refine lv_if_le (tgt := 91) hx hb dX1_insertOuter_50 (by decide) (fun c50 => ?_) (fun c50 => ?_)
          · rw [lg_cmp_le] at c50
            refine lv_aload_n hx hb dX1_insertOuter_91 rfl (lv_at hl 0 rfl) ?_
            refine va_get (D := (dC, dI)) (ci := 1) (v := .ref ox) (C := RX1) (T := TX1) (N := 7) hx hb hts hi1 hown hK hP 0 rfl rfl 1 (by decide) f9 (fun _ h9 => h9) rfl dX1_insertOuter_92 ?_
            refine lv_iload hx hb dX1_insertOuter_95 (lv_at hl 3 rfl) ?_
            refine lv_lload_n hx hb dX1_insertOuter_97 rfl (lv_at hl 1 rfl) ?_
            refine va_last hx hb hK hP hD hS 1 0 rfl rfl (vp_in_nI (show pl < 16 by omega) (by omega)) dX1_insertOuter_98 (fun H locs hP hD hS => ?_)
            rw [show (nI pl).toNatClampNeg = pl from nI_clamp (show pl < 2 ^ 31 by omega)] at hP hD
            have hP : va_P (dC, dI) vwCl [(h0, .inr (1, [.int (nI pn), .ref ox, .ref oy, .int (nI on), .ref ax, .ref ay, .int (nI n)])), (ox, .inl (cJ, 16, .inr (.inl (vp_updL gx pl x)))), (oy, .inl (cJ, 16, .inr (.inl gy))), (ax, .inl (cJ, 32, .inr (.inl fx))), (ay, .inl (cJ, 32, .inr (.inl fy)))] H := hP
            have hD : va_D A [(h0, .inr (1, [.int (nI pn), .ref ox, .ref oy, .int (nI on), .ref ax, .ref ay, .int (nI n)])), (ox, .inl (cJ, 16, .inr (.inl (vp_updL gx pl x)))), (oy, .inl (cJ, 16, .inr (.inl gy))), (ax, .inl (cJ, 32, .inr (.inl fx))), (ay, .inl (cJ, 32, .inr (.inl fy)))] := hD
            refine lv_aload_n hx hb dX1_insertOuter_99 rfl (lv_at hl 0 rfl) ?_
            refine va_get (D := (dC, dI)) (ci := 1) (v := .ref oy) (C := RX1) (T := TX1) (N := 7) hx hb hts hi1 hown hK hP 0 rfl rfl 2 (by decide) f15 (fun _ h9 => h9) rfl dX1_insertOuter_100 ?_
            refine lv_iload hx hb dX1_insertOuter_103 (lv_at hl 3 rfl) ?_
            refine lv_lload_n hx hb dX1_insertOuter_105 rfl (lv_at hl 2 rfl) ?_
            refine va_last hx hb hK hP hD hS 2 0 rfl rfl (vp_in_nI (show pl < 16 by omega) (by omega)) dX1_insertOuter_106 (fun H locs hP hD hS => ?_)
            rw [show (nI pl).toNatClampNeg = pl from nI_clamp (show pl < 2 ^ 31 by omega)] at hP hD
            have hP : va_P (dC, dI) vwCl [(h0, .inr (1, [.int (nI pn), .ref ox, .ref oy, .int (nI on), .ref ax, .ref ay, .int (nI n)])), (ox, .inl (cJ, 16, .inr (.inl (vp_updL gx pl x)))), (oy, .inl (cJ, 16, .inr (.inl (vp_updL gy pl y)))), (ax, .inl (cJ, 32, .inr (.inl fx))), (ay, .inl (cJ, 32, .inr (.inl fy)))] H := hP
            have hD : va_D A [(h0, .inr (1, [.int (nI pn), .ref ox, .ref oy, .int (nI on), .ref ax, .ref ay, .int (nI n)])), (ox, .inl (cJ, 16, .inr (.inl (vp_updL gx pl x)))), (oy, .inl (cJ, 16, .inr (.inl (vp_updL gy pl y)))), (ax, .inl (cJ, 32, .inr (.inl fx))), (ay, .inl (cJ, 32, .inr (.inl fy)))] := hD
            refine lv_aload_n hx hb dX1_insertOuter_107 rfl (lv_at hl 0 rfl) ?_
            refine lv_dup hx hb dX1_insertOuter_108 rfl ?_
            refine va_get (D := (dC, dI)) (ci := 1) (v := .int (nI on)) (C := RX1) (T := TX1) (N := 7) hx hb hts hi1 hown hK hP 0 rfl rfl 3 (by decide) f28 (fun _ h9 => h9) rfl dX1_insertOuter_109 ?_
            refine lv_iconst (v := (nI 1)) hx hb dX1_insertOuter_112 (by decide) ?_
            refine lv_iadd hx hb dX1_insertOuter_113 ?_
            rw [show (nI on) + (nI 1) = (nI (on + 1)) from nI_add on 1]
            refine va_put (D := (dC, dI)) (ci := 1) (v := .int (nI (on + 1))) (ty := .int) (C := RX1) (T := TX1) (N := 7) hx hb hts hi1 tyX1 tyX1_ok nmX1 hown hK hP hD hS 0 rfl rfl 3 (by decide) f28 (fun _ h9 => h9) rfl (by decide +kernel) rfl rfl (Nat.le_of_ble_eq_true rfl) dX1_insertOuter_114 (fun H locs hP hD hS => ?_)
            have hP : va_P (dC, dI) vwCl [(h0, .inr (1, [.int (nI pn), .ref ox, .ref oy, .int (nI (on + 1)), .ref ax, .ref ay, .int (nI n)])), (ox, .inl (cJ, 16, .inr (.inl (vp_updL gx pl x)))), (oy, .inl (cJ, 16, .inr (.inl (vp_updL gy pl y)))), (ax, .inl (cJ, 32, .inr (.inl fx))), (ay, .inl (cJ, 32, .inr (.inl fy)))] H := hP
            have hD : va_D A [(h0, .inr (1, [.int (nI pn), .ref ox, .ref oy, .int (nI (on + 1)), .ref ax, .ref ay, .int (nI n)])), (ox, .inl (cJ, 16, .inr (.inl (vp_updL gx pl x)))), (oy, .inl (cJ, 16, .inr (.inl (vp_updL gy pl y)))), (ax, .inl (cJ, 32, .inr (.inl fx))), (ay, .inl (cJ, 32, .inr (.inl fy)))] := hD
            have hq0 : (pInsX on fox foy x y) = (vp_updL gx pl x) := (by first | (rw [← hX]; exact pInsX_e (by first | exact Or.inl c8 | exact Or.inr (fun h => h.elim (fun h => absurd h (Int64.not_lt.mpr c22)) (fun h => absurd h.1 c36)) | exact Or.inr (fun h => h.elim (fun h => absurd h (Int64.not_lt.mpr c22)) (fun h => absurd h.2 (Int64.not_lt.mpr c50))))) | (rw [← hY]; exact pInsY_e (by first | exact Or.inl c8 | exact Or.inr (fun h => h.elim (fun h => absurd h (Int64.not_lt.mpr c22)) (fun h => absurd h.1 c36)) | exact Or.inr (fun h => h.elim (fun h => absurd h (Int64.not_lt.mpr c22)) (fun h => absurd h.2 (Int64.not_lt.mpr c50))))))
            have hq1 : (pInsY on fox foy x y) = (vp_updL gy pl y) := (by first | (rw [← hX]; exact pInsX_e (by first | exact Or.inl c8 | exact Or.inr (fun h => h.elim (fun h => absurd h (Int64.not_lt.mpr c22)) (fun h => absurd h.1 c36)) | exact Or.inr (fun h => h.elim (fun h => absurd h (Int64.not_lt.mpr c22)) (fun h => absurd h.2 (Int64.not_lt.mpr c50))))) | (rw [← hY]; exact pInsY_e (by first | exact Or.inl c8 | exact Or.inr (fun h => h.elim (fun h => absurd h (Int64.not_lt.mpr c22)) (fun h => absurd h.1 c36)) | exact Or.inr (fun h => h.elim (fun h => absurd h (Int64.not_lt.mpr c22)) (fun h => absurd h.2 (Int64.not_lt.mpr c50))))))
            have hw : ([(h0, .inr (1, [.int (nI pn), .ref ox, .ref oy, .int (nI (on + 1)), .ref ax, .ref ay, .int (nI n)])), (ox, .inl (cJ, 16, .inr (.inl (vp_updL gx pl x)))), (oy, .inl (cJ, 16, .inr (.inl (vp_updL gy pl y)))), (ax, .inl (cJ, 32, .inr (.inl fx))), (ay, .inl (cJ, 32, .inr (.inl fy)))] : va_W) = [(h0, .inr (1, [.int (nI pn), .ref ox, .ref oy, .int (nI (on + 1)), .ref ax, .ref ay, .int (nI n)])), (ox, .inl (cJ, 16, .inr (.inl (pInsX on fox foy x y)))), (oy, .inl (cJ, 16, .inr (.inl (pInsY on fox foy x y)))), (ax, .inl (cJ, 32, .inr (.inl fx))), (ay, .inl (cJ, 32, .inr (.inl fy)))] := by rw [hq0, hq1]
            rw [hw] at hP hD
            exact kEv hx hb hr hlocks hP hK hD hS dX1_insertOuter_117
          · rw [lg_cmp_le, Int64.not_le] at c50
            refine lv_aload_n hx hb dX1_insertOuter_53 rfl (lv_at hl 0 rfl) ?_
            refine va_get (D := (dC, dI)) (ci := 1) (v := .ref ox) (C := RX1) (T := TX1) (N := 7) hx hb hts hi1 hown hK hP 0 rfl rfl 1 (by decide) f9 (fun _ h9 => h9) rfl dX1_insertOuter_54 ?_
            refine lv_iload hx hb dX1_insertOuter_57 (lv_at hl 3 rfl) ?_
            refine lv_aload_n hx hb dX1_insertOuter_59 rfl (lv_at hl 0 rfl) ?_
            refine va_get (D := (dC, dI)) (ci := 1) (v := .ref ox) (C := RX1) (T := TX1) (N := 7) hx hb hts hi1 hown hK hP 0 rfl rfl 1 (by decide) f9 (fun _ h9 => h9) rfl dX1_insertOuter_60 ?_
            refine lv_iload hx hb dX1_insertOuter_63 (lv_at hl 3 rfl) ?_
            refine lv_iconst (v := (nI 1)) hx hb dX1_insertOuter_65 (by decide) ?_
            refine lv_isub hx hb dX1_insertOuter_66 ?_
            rw [show (nI pl) - (nI 1) = (nI (pl - 1)) from pk_sub (show 1 ≤ pl by omega)]
            refine va_lald hx hb hK hP 1 0 rfl rfl (vp_in_nI (show (pl - 1) < 16 by omega) (by omega)) dX1_insertOuter_67 ?_
            rw [show (nI (pl - 1)).toNatClampNeg = (pl - 1) from nI_clamp (show (pl - 1) < 2 ^ 31 by omega)]
            refine va_last hx hb hK hP hD hS 1 0 rfl rfl (vp_in_nI (show pl < 16 by omega) (by omega)) dX1_insertOuter_68 (fun H locs hP hD hS => ?_)
            rw [show (nI pl).toNatClampNeg = pl from nI_clamp (show pl < 2 ^ 31 by omega)] at hP hD
            have hP : va_P (dC, dI) vwCl [(h0, .inr (1, [.int (nI pn), .ref ox, .ref oy, .int (nI on), .ref ax, .ref ay, .int (nI n)])), (ox, .inl (cJ, 16, .inr (.inl (vp_updL gx pl (gx ((pl - 1))))))), (oy, .inl (cJ, 16, .inr (.inl gy))), (ax, .inl (cJ, 32, .inr (.inl fx))), (ay, .inl (cJ, 32, .inr (.inl fy)))] H := hP
            have hD : va_D A [(h0, .inr (1, [.int (nI pn), .ref ox, .ref oy, .int (nI on), .ref ax, .ref ay, .int (nI n)])), (ox, .inl (cJ, 16, .inr (.inl (vp_updL gx pl (gx ((pl - 1))))))), (oy, .inl (cJ, 16, .inr (.inl gy))), (ax, .inl (cJ, 32, .inr (.inl fx))), (ay, .inl (cJ, 32, .inr (.inl fy)))] := hD
            refine lv_aload_n hx hb dX1_insertOuter_69 rfl (lv_at hl 0 rfl) ?_
            refine va_get (D := (dC, dI)) (ci := 1) (v := .ref oy) (C := RX1) (T := TX1) (N := 7) hx hb hts hi1 hown hK hP 0 rfl rfl 2 (by decide) f15 (fun _ h9 => h9) rfl dX1_insertOuter_70 ?_
            refine lv_iload hx hb dX1_insertOuter_73 (lv_at hl 3 rfl) ?_
            refine lv_aload_n hx hb dX1_insertOuter_75 rfl (lv_at hl 0 rfl) ?_
            refine va_get (D := (dC, dI)) (ci := 1) (v := .ref oy) (C := RX1) (T := TX1) (N := 7) hx hb hts hi1 hown hK hP 0 rfl rfl 2 (by decide) f15 (fun _ h9 => h9) rfl dX1_insertOuter_76 ?_
            refine lv_iload hx hb dX1_insertOuter_79 (lv_at hl 3 rfl) ?_
            refine lv_iconst (v := (nI 1)) hx hb dX1_insertOuter_81 (by decide) ?_
            refine lv_isub hx hb dX1_insertOuter_82 ?_
            rw [show (nI pl) - (nI 1) = (nI (pl - 1)) from pk_sub (show 1 ≤ pl by omega)]
            refine va_lald hx hb hK hP 2 0 rfl rfl (vp_in_nI (show (pl - 1) < 16 by omega) (by omega)) dX1_insertOuter_83 ?_
            rw [show (nI (pl - 1)).toNatClampNeg = (pl - 1) from nI_clamp (show (pl - 1) < 2 ^ 31 by omega)]
            refine va_last hx hb hK hP hD hS 2 0 rfl rfl (vp_in_nI (show pl < 16 by omega) (by omega)) dX1_insertOuter_84 (fun H locs hP hD hS => ?_)
            rw [show (nI pl).toNatClampNeg = pl from nI_clamp (show pl < 2 ^ 31 by omega)] at hP hD
            have hP : va_P (dC, dI) vwCl [(h0, .inr (1, [.int (nI pn), .ref ox, .ref oy, .int (nI on), .ref ax, .ref ay, .int (nI n)])), (ox, .inl (cJ, 16, .inr (.inl (vp_updL gx pl (gx ((pl - 1))))))), (oy, .inl (cJ, 16, .inr (.inl (vp_updL gy pl (gy ((pl - 1))))))), (ax, .inl (cJ, 32, .inr (.inl fx))), (ay, .inl (cJ, 32, .inr (.inl fy)))] H := hP
            have hD : va_D A [(h0, .inr (1, [.int (nI pn), .ref ox, .ref oy, .int (nI on), .ref ax, .ref ay, .int (nI n)])), (ox, .inl (cJ, 16, .inr (.inl (vp_updL gx pl (gx ((pl - 1))))))), (oy, .inl (cJ, 16, .inr (.inl (vp_updL gy pl (gy ((pl - 1))))))), (ax, .inl (cJ, 32, .inr (.inl fx))), (ay, .inl (cJ, 32, .inr (.inl fy)))] := hD
            refine lv_iinc (v := (nI (pl - 1))) (lv' := [(5, .int (nI (pl - 1))), (0, .ref h0), (1, .long x), (3, .long y)]) hx hb dX1_insertOuter_85 hl (k := 3) rfl (sb_m1 (show 0 < pl by omega)) (by decide) rfl (fun ls hl => ?_)
            refine lv_goto (tgt := 6) hx hb dX1_insertOuter_88 (by decide) ?_
            have hc : x < gx (pl - 1) ∨ (gx (pl - 1) = x ∧ y < gy (pl - 1)) := by first | exact Or.inl c22 | exact Or.inr ⟨c36, c50⟩
            exact ih6 (pl - 1, vp_updL gx pl (gx (pl - 1)), vp_updL gy pl (gy (pl - 1))) _ _ _ ⟨hP, hD, hS, lv_sub hl [1, 2, 3, 0] rfl, ⟨by omega, by rw [← hX, pInsX_s c8 hc], by rw [← hY, pInsY_s c8 hc]⟩⟩ (by simp only []; omega)
  · exact ⟨hP, hD, hS, lv_sub hl [1, 2, 3, 0] rfl, ⟨Nat.le_refl _, rfl, rfl⟩⟩

/-- how many corners stay when the way goes on to a point -/
def pPop (fx fy : Nat → Int64) (x y : Int64) (kp : Nat) : Nat → Nat
  | 0 => 0
  | q + 1 => if kp < q + 1 ∧ pTurn (fx q - fx (q - 1)) (fy q - fy (q - 1)) (x - fx q) (y - fy q) ≤ 0 then pPop fx fy x y kp q else q + 1
theorem pPop_s {fx fy : Nat → Int64} {x y : Int64} {kp t : Nat} (h : kp < t) (hc : pTurn (fx (t - 1) - fx (t - 2)) (fy (t - 1) - fy (t - 2)) (x - fx (t - 1)) (y - fy (t - 1)) ≤ 0) : pPop fx fy x y kp t = pPop fx fy x y kp (t - 1) := by
  cases t with
  | zero => omega
  | succ q => rw [pPop, if_pos ⟨h, hc⟩]; rfl
theorem pPop_e {fx fy : Nat → Int64} {x y : Int64} {kp t : Nat} (h : t ≤ kp ∨ 0 < pTurn (fx (t - 1) - fx (t - 2)) (fy (t - 1) - fy (t - 2)) (x - fx (t - 1)) (y - fy (t - 1))) : pPop fx fy x y kp t = t := by
  cases t with
  | zero => rfl
  | succ q => rw [pPop, if_neg (fun z => h.elim (fun h => absurd z.1 (by omega)) (fun h => absurd z.2 (Int64.not_le.mpr h)))]
theorem pPop_le (fx fy : Nat → Int64) (x y : Int64) (kp t : Nat) : pPop fx fy x y kp t ≤ t := by
  induction t with
  | zero => exact Nat.le_refl _
  | succ q ih => rw [pPop]; split <;> omega
def pApp (kp : Nat) (q : (Nat → Int64) × (Nat → Int64) × Nat) (x y : Int64) : (Nat → Int64) × (Nat → Int64) × Nat :=
  (vp_updL q.1 (pPop q.1 q.2.1 x y kp q.2.2) x, vp_updL q.2.1 (pPop q.1 q.2.1 x y kp q.2.2) y, pPop q.1 q.2.1 x y kp q.2.2 + 1)
/-- the way to the right, over the first k outer points -/
def pLow (ox oy fx fy : Nat → Int64) : Nat → (Nat → Int64) × (Nat → Int64) × Nat
  | 0 => (fx, fy, 0)
  | k + 1 => pApp 1 (pLow ox oy fx fy k) (ox k) (oy k)
/-- the way back, over the outer points k - 1 .. 0 -/
def pUpp (ox oy : Nat → Int64) (kp : Nat) : Nat → (Nat → Int64) × (Nat → Int64) × Nat → (Nat → Int64) × (Nat → Int64) × Nat
  | 0, q => q
  | k + 1, q => pUpp ox oy kp k (pApp kp q (ox k) (oy k))
theorem pLow_le (ox oy fx fy : Nat → Int64) (k : Nat) : (pLow ox oy fx fy k).2.2 ≤ k := by
  induction k with
  | zero => exact Nat.le_refl _
  | succ k ih =>
    have := pPop_le (pLow ox oy fx fy k).1 (pLow ox oy fx fy k).2.1 (ox k) (oy k) 1 (pLow ox oy fx fy k).2.2
    show pPop _ _ _ _ _ _ + 1 ≤ k + 1
    omega
theorem pLow_ge (ox oy fx fy : Nat → Int64) {k : Nat} (h : 1 ≤ k) : 1 ≤ (pLow ox oy fx fy k).2.2 := by
  cases k with
  | zero => omega
  | succ k => show 1 ≤ pPop _ _ _ _ _ _ + 1; omega
theorem pUpp_s {ox oy : Nat → Int64} {kp j : Nat} {gx gy : Nat → Int64} {t : Nat} (h : 0 < j) : pUpp ox oy kp j (gx, gy, t) = pUpp ox oy kp (j - 1) (pApp kp (gx, gy, t) (ox (j - 1)) (oy (j - 1))) := by
  cases j with
  | zero => omega
  | succ j => rfl
def pCo (ox oy fx fy : Nat → Int64) (on : Nat) : (Nat → Int64) × (Nat → Int64) × Nat := pUpp ox oy (pLow ox oy fx fy on).2.2 (on - 1) (pLow ox oy fx fy on)
theorem fc_sub {k : Nat} (h : 1 ≤ k) : nI k - nI 2 = nI (k - 1) - 1 := by
  obtain ⟨j, rfl⟩ : ∃ j, k = j + 1 := ⟨k - 1, by omega⟩
  rw [nI_succ, Nat.add_sub_cancel, Int32.sub_eq_add_neg, Int32.sub_eq_add_neg, Int32.add_assoc]; rfl
theorem fc_pos {j : Nat} (h : 0 < j) : nI j - 1 = nI (j - 1) := pk_sub (a := j) (b := 1) h
theorem fc_lt {j : Nat} (h : nI j - 1 < 0) (hj : j < 2 ^ 31) : j = 0 := by
  rcases Nat.eq_zero_or_pos j with h0 | h0
  · exact h0
  · rw [fc_pos h0] at h; exact absurd h (nI_pos (by omega))
theorem fc_nlt {j : Nat} (h : ¬ nI j - 1 < 0) : 0 < j := by
  rcases Nat.eq_zero_or_pos j with h0 | h0
  · subst h0; exact absurd (show nI 0 - 1 < 0 by decide) h
  · exact h0
set_option maxHeartbeats 4000000 in
set_option maxRecDepth 100000 in
theorem tX1_append (l : Launch) (dC : Nat → ClassId) (dI : Nat → Nat → Nat) (cJ : ClassId) (h0 ox oy ax ay pn on n : Nat) (fox foy fx fy : Nat → Int64) (x y : Int64) (kp : Nat) (hkp : 1 ≤ kp) (hn : n < 32) (hk2 : kp < 1000) : MMv l yX1_append wsX1_append { frames := 1, cells := 0, slots := 0, locals := 27 } [.ref h0, .long x, .long y, .int (nI kp)] (dC, dI) [(h0, .inr (1, [.int (nI pn), .ref ox, .ref oy, .int (nI on), .ref ax, .ref ay, .int (nI n)])), (ox, .inl (cJ, 16, .inr (.inl fox))), (oy, .inl (cJ, 16, .inr (.inl foy))), (ax, .inl (cJ, 32, .inr (.inl fx))), (ay, .inl (cJ, 32, .inr (.inl fy)))] [(h0, .inr (1, [.int (nI pn), .ref ox, .ref oy, .int (nI on), .ref ax, .ref ay, .int (nI (pPop fx fy x y kp n + 1))])), (ox, .inl (cJ, 16, .inr (.inl fox))), (oy, .inl (cJ, 16, .inr (.inl foy))), (ax, .inl (cJ, 32, .inr (.inl (vp_updL fx (pPop fx fy x y kp n) x)))), (ay, .inl (cJ, 32, .inr (.inl (vp_updL fy (pPop fx fy x y kp n) y))))] [(cJ, .long)] := by
  intro sz
  refine kOf (cc := cX1_append) (maxL := 6) (ret := none) (by decide) rfl (Nat.le_of_ble_eq_true rfl) ?_
  intro p e s m below meth c hx hb hr hml hts hown hlocks hB ls hl
  obtain ⟨hsz, hP, hK, hD0⟩ := hB
  subst hsz
  have hD := hD0.self (sz := s.heap.size)
  generalize hAe : va_A [(h0, .inr (1, [.int (nI pn), .ref ox, .ref oy, .int (nI on), .ref ax, .ref ay, .int (nI n)])), (ox, .inl (cJ, 16, .inr (.inl fox))), (oy, .inl (cJ, 16, .inr (.inl foy))), (ax, .inl (cJ, 32, .inr (.inl fx))), (ay, .inl (cJ, 32, .inr (.inl fy)))] s.heap.size = A at hD ⊢
  have hA : ∀ q : Nat, s.heap.size ≤ q → A q := fun q h => by rw [← hAe]; exact Or.inr h
  have hS : va_S A s.heap s.heap [] := va_S.rf
  have hl : lv_has ls 6 [(0, .ref h0), (1, .long x), (3, .long y), (5, .int (nI kp))] := hl
  have hi1 : ∀ w ∈ u_ws RX1 TX1 7, w ∈ wsX1_append := by decide +kernel
  have f18 := hts (.fieldLink RX1 18 "SweptBoxes$Hull" "xs" "[J") (by decide +kernel)
  have f21 := hts (.fieldLink RX1 21 "SweptBoxes$Hull" "ys" "[J") (by decide +kernel)
  have f31 := hts (.fieldLink RX1 31 "SweptBoxes$Hull" "size" "I") (by decide +kernel)
  refine kLoop (σ := Nat) (fun xz H locs ls => match xz with | t => (va_P (dC, dI) vwCl [(h0, .inr (1, [.int (nI pn), .ref ox, .ref oy, .int (nI on), .ref ax, .ref ay, .int (nI t)])), (ox, .inl (cJ, 16, .inr (.inl fox))), (oy, .inl (cJ, 16, .inr (.inl foy))), (ax, .inl (cJ, 32, .inr (.inl fx))), (ay, .inl (cJ, 32, .inr (.inl fy)))] H) ∧ (va_D A [(h0, .inr (1, [.int (nI pn), .ref ox, .ref oy, .int (nI on), .ref ax, .ref ay, .int (nI t)])), (ox, .inl (cJ, 16, .inr (.inl fox))), (oy, .inl (cJ, 16, .inr (.inl foy))), (ax, .inl (cJ, 32, .inr (.inl fx))), (ay, .inl (cJ, 32, .inr (.inl fy)))]) ∧ (va_S A s.heap H locs) ∧ (lv_has ls 6 [(0, .ref h0), (1, .long x), (3, .long y), (5, .int (nI kp))]) ∧ (t ≤ n ∧ pPop fx fy x y kp t = pPop fx fy x y kp n)) (fun xz => match xz with | t => t) ?_ (n) ?_
  · rintro t H locs ls hI ih0
    obtain ⟨hP, hD, hS, hl, hi0_⟩ := hI
    obtain ⟨hle, hE⟩ := hi0_
    refine lv_aload_n hx hb dX1_append_0 rfl (lv_at hl 0 rfl) ?_
    refine va_get (D := (dC, dI)) (ci := 1) (v := .int (nI t)) (C := RX1) (T := TX1) (N := 7) hx hb hts hi1 hown hK hP 0 rfl rfl 6 (by decide) f31 (fun _ h9 => h9) rfl dX1_append_1 ?_
    refine lv_iload hx hb dX1_append_4 (lv_at hl 3 rfl) ?_
    refine lv_icmp_le (tgt := 102) hx hb dX1_append_6 (by decide) (fun c6 => ?_) (fun c6 => ?_)
    · rw [nI_leI (by omega) (by omega)] at c6
      refine lv_aload_n hx hb dX1_append_102 rfl (lv_at hl 0 rfl) ?_
      refine va_get (D := (dC, dI)) (ci := 1) (v := .ref ax) (C := RX1) (T := TX1) (N := 7) hx hb hts hi1 hown hK hP 0 rfl rfl 4 (by decide) f18 (fun _ h9 => h9) rfl dX1_append_103 ?_
      refine lv_aload_n hx hb dX1_append_106 rfl (lv_at hl 0 rfl) ?_
      refine va_get (D := (dC, dI)) (ci := 1) (v := .int (nI t)) (C := RX1) (T := TX1) (N := 7) hx hb hts hi1 hown hK hP 0 rfl rfl 6 (by decide) f31 (fun _ h9 => h9) rfl dX1_append_107 ?_
      refine lv_lload_n hx hb dX1_append_110 rfl (lv_at hl 1 rfl) ?_
      refine va_last hx hb hK hP hD hS 3 0 rfl rfl (vp_in_nI (show t < 32 by omega) (by omega)) dX1_append_111 (fun H locs hP hD hS => ?_)
      rw [show (nI t).toNatClampNeg = t from nI_clamp (show t < 2 ^ 31 by omega)] at hP hD
      have hP : va_P (dC, dI) vwCl [(h0, .inr (1, [.int (nI pn), .ref ox, .ref oy, .int (nI on), .ref ax, .ref ay, .int (nI t)])), (ox, .inl (cJ, 16, .inr (.inl fox))), (oy, .inl (cJ, 16, .inr (.inl foy))), (ax, .inl (cJ, 32, .inr (.inl (vp_updL fx t x)))), (ay, .inl (cJ, 32, .inr (.inl fy)))] H := hP
      have hD : va_D A [(h0, .inr (1, [.int (nI pn), .ref ox, .ref oy, .int (nI on), .ref ax, .ref ay, .int (nI t)])), (ox, .inl (cJ, 16, .inr (.inl fox))), (oy, .inl (cJ, 16, .inr (.inl foy))), (ax, .inl (cJ, 32, .inr (.inl (vp_updL fx t x)))), (ay, .inl (cJ, 32, .inr (.inl fy)))] := hD
      refine lv_aload_n hx hb dX1_append_112 rfl (lv_at hl 0 rfl) ?_
      refine va_get (D := (dC, dI)) (ci := 1) (v := .ref ay) (C := RX1) (T := TX1) (N := 7) hx hb hts hi1 hown hK hP 0 rfl rfl 5 (by decide) f21 (fun _ h9 => h9) rfl dX1_append_113 ?_
      refine lv_aload_n hx hb dX1_append_116 rfl (lv_at hl 0 rfl) ?_
      refine va_get (D := (dC, dI)) (ci := 1) (v := .int (nI t)) (C := RX1) (T := TX1) (N := 7) hx hb hts hi1 hown hK hP 0 rfl rfl 6 (by decide) f31 (fun _ h9 => h9) rfl dX1_append_117 ?_
      refine lv_lload_n hx hb dX1_append_120 rfl (lv_at hl 2 rfl) ?_
      refine va_last hx hb hK hP hD hS 4 0 rfl rfl (vp_in_nI (show t < 32 by omega) (by omega)) dX1_append_121 (fun H locs hP hD hS => ?_)
      rw [show (nI t).toNatClampNeg = t from nI_clamp (show t < 2 ^ 31 by omega)] at hP hD
      have hP : va_P (dC, dI) vwCl [(h0, .inr (1, [.int (nI pn), .ref ox, .ref oy, .int (nI on), .ref ax, .ref ay, .int (nI t)])), (ox, .inl (cJ, 16, .inr (.inl fox))), (oy, .inl (cJ, 16, .inr (.inl foy))), (ax, .inl (cJ, 32, .inr (.inl (vp_updL fx t x)))), (ay, .inl (cJ, 32, .inr (.inl (vp_updL fy t y))))] H := hP
      have hD : va_D A [(h0, .inr (1, [.int (nI pn), .ref ox, .ref oy, .int (nI on), .ref ax, .ref ay, .int (nI t)])), (ox, .inl (cJ, 16, .inr (.inl fox))), (oy, .inl (cJ, 16, .inr (.inl foy))), (ax, .inl (cJ, 32, .inr (.inl (vp_updL fx t x)))), (ay, .inl (cJ, 32, .inr (.inl (vp_updL fy t y))))] := hD
      refine lv_aload_n hx hb dX1_append_122 rfl (lv_at hl 0 rfl) ?_
      refine lv_dup hx hb dX1_append_123 rfl ?_
      refine va_get (D := (dC, dI)) (ci := 1) (v := .int (nI t)) (C := RX1) (T := TX1) (N := 7) hx hb hts hi1 hown hK hP 0 rfl rfl 6 (by decide) f31 (fun _ h9 => h9) rfl dX1_append_124 ?_
      refine lv_iconst (v := (nI 1)) hx hb dX1_append_127 (by decide) ?_
      refine lv_iadd hx hb dX1_append_128 ?_
      rw [show (nI t) + (nI 1) = (nI (t + 1)) from nI_add t 1]
      refine va_put (D := (dC, dI)) (ci := 1) (v := .int (nI (t + 1))) (ty := .int) (C := RX1) (T := TX1) (N := 7) hx hb hts hi1 tyX1 tyX1_ok nmX1 hown hK hP hD hS 0 rfl rfl 6 (by decide) f31 (fun _ h9 => h9) rfl (by decide +kernel) rfl rfl (Nat.le_of_ble_eq_true rfl) dX1_append_129 (fun H locs hP hD hS => ?_)
      have hP : va_P (dC, dI) vwCl [(h0, .inr (1, [.int (nI pn), .ref ox, .ref oy, .int (nI on), .ref ax, .ref ay, .int (nI (t + 1))])), (ox, .inl (cJ, 16, .inr (.inl fox))), (oy, .inl (cJ, 16, .inr (.inl foy))), (ax, .inl (cJ, 32, .inr (.inl (vp_updL fx t x)))), (ay, .inl (cJ, 32, .inr (.inl (vp_updL fy t y))))] H := hP
      have hD : va_D A [(h0, .inr (1, [.int (nI pn), .ref ox, .ref oy, .int (nI on), .ref ax, .ref ay, .int (nI (t + 1))])), (ox, .inl (cJ, 16, .inr (.inl fox))), (oy, .inl (cJ, 16, .inr (.inl foy))), (ax, .inl (cJ, 32, .inr (.inl (vp_updL fx t x)))), (ay, .inl (cJ, 32, .inr (.inl (vp_updL fy t y))))] := hD
      have hq0 : (vp_updL fx (pPop fx fy x y kp n) x) = (vp_updL fx t x) := (by rw [show pPop fx fy x y kp n = t from by rw [← hE]; exact pPop_e (by first | exact Or.inl c6 | exact Or.inr c86)])
      have hq1 : (vp_updL fy (pPop fx fy x y kp n) y) = (vp_updL fy t y) := (by rw [show pPop fx fy x y kp n = t from by rw [← hE]; exact pPop_e (by first | exact Or.inl c6 | exact Or.inr c86)])
      have hq2 : (nI (pPop fx fy x y kp n + 1)) = (nI (t + 1)) := (by rw [show pPop fx fy x y kp n = t from by rw [← hE]; exact pPop_e (by first | exact Or.inl c6 | exact Or.inr c86)])
      have hw : ([(h0, .inr (1, [.int (nI pn), .ref ox, .ref oy, .int (nI on), .ref ax, .ref ay, .int (nI (t + 1))])), (ox, .inl (cJ, 16, .inr (.inl fox))), (oy, .inl (cJ, 16, .inr (.inl foy))), (ax, .inl (cJ, 32, .inr (.inl (vp_updL fx t x)))), (ay, .inl (cJ, 32, .inr (.inl (vp_updL fy t y))))] : va_W) = [(h0, .inr (1, [.int (nI pn), .ref ox, .ref oy, .int (nI on), .ref ax, .ref ay, .int (nI (pPop fx fy x y kp n + 1))])), (ox, .inl (cJ, 16, .inr (.inl fox))), (oy, .inl (cJ, 16, .inr (.inl foy))), (ax, .inl (cJ, 32, .inr (.inl (vp_updL fx (pPop fx fy x y kp n) x)))), (ay, .inl (cJ, 32, .inr (.inl (vp_updL fy (pPop fx fy x y kp n) y))))] := by rw [hq0, hq1, hq2]
      rw [hw] at hP hD
      exact kEv hx hb hr hlocks hP hK hD hS dX1_append_132
    · rw [nI_leI (by omega) (by omega), Nat.not_le] at c6
      refine lv_aload_n hx hb dX1_append_9 rfl (lv_at hl 0 rfl) ?_
      refine va_get (D := (dC, dI)) (ci := 1) (v := .ref ax) (C := RX1) (T := TX1) (N := 7) hx hb hts hi1 hown hK hP 0 rfl rfl 4 (by decide) f18 (fun _ h9 => h9) rfl dX1_append_10 ?_
      refine lv_aload_n hx hb dX1_append_13 rfl (lv_at hl 0 rfl) ?_
      refine va_get (D := (dC, dI)) (ci := 1) (v := .int (nI t)) (C := RX1) (T := TX1) (N := 7) hx hb hts hi1 hown hK hP 0 rfl rfl 6 (by decide) f31 (fun _ h9 => h9) rfl dX1_append_14 ?_
      refine lv_iconst (v := (nI 1)) hx hb dX1_append_17 (by decide) ?_
      refine lv_isub hx hb dX1_append_18 ?_
      rw [show (nI t) - (nI 1) = (nI (t - 1)) from pk_sub (show 1 ≤ t by omega)]
      refine va_lald hx hb hK hP 3 0 rfl rfl (vp_in_nI (show (t - 1) < 32 by omega) (by omega)) dX1_append_19 ?_
      rw [show (nI (t - 1)).toNatClampNeg = (t - 1) from nI_clamp (show (t - 1) < 2 ^ 31 by omega)]
      refine lv_aload_n hx hb dX1_append_20 rfl (lv_at hl 0 rfl) ?_
      refine va_get (D := (dC, dI)) (ci := 1) (v := .ref ax) (C := RX1) (T := TX1) (N := 7) hx hb hts hi1 hown hK hP 0 rfl rfl 4 (by decide) f18 (fun _ h9 => h9) rfl dX1_append_21 ?_
      refine lv_aload_n hx hb dX1_append_24 rfl (lv_at hl 0 rfl) ?_
      refine va_get (D := (dC, dI)) (ci := 1) (v := .int (nI t)) (C := RX1) (T := TX1) (N := 7) hx hb hts hi1 hown hK hP 0 rfl rfl 6 (by decide) f31 (fun _ h9 => h9) rfl dX1_append_25 ?_
      refine lv_iconst (v := (nI 2)) hx hb dX1_append_28 (by decide) ?_
      refine lv_isub hx hb dX1_append_29 ?_
      rw [show (nI t) - (nI 2) = (nI (t - 2)) from pk_sub (show 2 ≤ t by omega)]
      refine va_lald hx hb hK hP 3 0 rfl rfl (vp_in_nI (show (t - 2) < 32 by omega) (by omega)) dX1_append_30 ?_
      rw [show (nI (t - 2)).toNatClampNeg = (t - 2) from nI_clamp (show (t - 2) < 2 ^ 31 by omega)]
      refine lv_lsub hx hb dX1_append_31 ?_
      refine lv_aload_n hx hb dX1_append_32 rfl (lv_at hl 0 rfl) ?_
      refine va_get (D := (dC, dI)) (ci := 1) (v := .ref ay) (C := RX1) (T := TX1) (N := 7) hx hb hts hi1 hown hK hP 0 rfl rfl 5 (by decide) f21 (fun _ h9 => h9) rfl dX1_append_33 ?_
      refine lv_aload_n hx hb dX1_append_36 rfl (lv_at hl 0 rfl) ?_
      refine va_get (D := (dC, dI)) (ci := 1) (v := .int (nI t)) (C := RX1) (T := TX1) (N := 7) hx hb hts hi1 hown hK hP 0 rfl rfl 6 (by decide) f31 (fun _ h9 => h9) rfl dX1_append_37 ?_
      refine lv_iconst (v := (nI 1)) hx hb dX1_append_40 (by decide) ?_
      refine lv_isub hx hb dX1_append_41 ?_
      rw [show (nI t) - (nI 1) = (nI (t - 1)) from pk_sub (show 1 ≤ t by omega)]
      refine va_lald hx hb hK hP 4 0 rfl rfl (vp_in_nI (show (t - 1) < 32 by omega) (by omega)) dX1_append_42 ?_
      rw [show (nI (t - 1)).toNatClampNeg = (t - 1) from nI_clamp (show (t - 1) < 2 ^ 31 by omega)]
      refine lv_aload_n hx hb dX1_append_43 rfl (lv_at hl 0 rfl) ?_
      refine va_get (D := (dC, dI)) (ci := 1) (v := .ref ay) (C := RX1) (T := TX1) (N := 7) hx hb hts hi1 hown hK hP 0 rfl rfl 5 (by decide) f21 (fun _ h9 => h9) rfl dX1_append_44 ?_
      refine lv_aload_n hx hb dX1_append_47 rfl (lv_at hl 0 rfl) ?_
      refine va_get (D := (dC, dI)) (ci := 1) (v := .int (nI t)) (C := RX1) (T := TX1) (N := 7) hx hb hts hi1 hown hK hP 0 rfl rfl 6 (by decide) f31 (fun _ h9 => h9) rfl dX1_append_48 ?_
      refine lv_iconst (v := (nI 2)) hx hb dX1_append_51 (by decide) ?_
      refine lv_isub hx hb dX1_append_52 ?_
      rw [show (nI t) - (nI 2) = (nI (t - 2)) from pk_sub (show 2 ≤ t by omega)]
      refine va_lald hx hb hK hP 4 0 rfl rfl (vp_in_nI (show (t - 2) < 32 by omega) (by omega)) dX1_append_53 ?_
      rw [show (nI (t - 2)).toNatClampNeg = (t - 2) from nI_clamp (show (t - 2) < 2 ^ 31 by omega)]
      refine lv_lsub hx hb dX1_append_54 ?_
      refine lv_lload_n hx hb dX1_append_55 rfl (lv_at hl 1 rfl) ?_
      refine lv_aload_n hx hb dX1_append_56 rfl (lv_at hl 0 rfl) ?_
      refine va_get (D := (dC, dI)) (ci := 1) (v := .ref ax) (C := RX1) (T := TX1) (N := 7) hx hb hts hi1 hown hK hP 0 rfl rfl 4 (by decide) f18 (fun _ h9 => h9) rfl dX1_append_57 ?_
      refine lv_aload_n hx hb dX1_append_60 rfl (lv_at hl 0 rfl) ?_
      refine va_get (D := (dC, dI)) (ci := 1) (v := .int (nI t)) (C := RX1) (T := TX1) (N := 7) hx hb hts hi1 hown hK hP 0 rfl rfl 6 (by decide) f31 (fun _ h9 => h9) rfl dX1_append_61 ?_
      refine lv_iconst (v := (nI 1)) hx hb dX1_append_64 (by decide) ?_
      refine lv_isub hx hb dX1_append_65 ?_
      rw [show (nI t) - (nI 1) = (nI (t - 1)) from pk_sub (show 1 ≤ t by omega)]
      refine va_lald hx hb hK hP 3 0 rfl rfl (vp_in_nI (show (t - 1) < 32 by omega) (by omega)) dX1_append_66 ?_
      rw [show (nI (t - 1)).toNatClampNeg = (t - 1) from nI_clamp (show (t - 1) < 2 ^ 31 by omega)]
      refine lv_lsub hx hb dX1_append_67 ?_
      refine lv_lload_n hx hb dX1_append_68 rfl (lv_at hl 2 rfl) ?_
      refine lv_aload_n hx hb dX1_append_69 rfl (lv_at hl 0 rfl) ?_
      refine va_get (D := (dC, dI)) (ci := 1) (v := .ref ay) (C := RX1) (T := TX1) (N := 7) hx hb hts hi1 hown hK hP 0 rfl rfl 5 (by decide) f21 (fun _ h9 => h9) rfl dX1_append_70 ?_
      refine lv_aload_n hx hb dX1_append_73 rfl (lv_at hl 0 rfl) ?_
      refine va_get (D := (dC, dI)) (ci := 1) (v := .int (nI t)) (C := RX1) (T := TX1) (N := 7) hx hb hts hi1 hown hK hP 0 rfl rfl 6 (by decide) f31 (fun _ h9 => h9) rfl dX1_append_74 ?_
      refine lv_iconst (v := (nI 1)) hx hb dX1_append_77 (by decide) ?_
      refine lv_isub hx hb dX1_append_78 ?_
      rw [show (nI t) - (nI 1) = (nI (t - 1)) from pk_sub (show 1 ≤ t by omega)]
      refine va_lald hx hb hK hP 4 0 rfl rfl (vp_in_nI (show (t - 1) < 32 by omega) (by omega)) dX1_append_79 ?_
      rw [show (nI (t - 1)).toNatClampNeg = (t - 1) from nI_clamp (show (t - 1) < 2 ^ 31 by omega)]
      refine lv_lsub hx hb dX1_append_80 ?_
      refine kpSl (As := [.long ((fx ((t - 1))) - (fx ((t - 2)))), .long ((fy ((t - 1))) - (fy ((t - 2)))), .long (x - (fx ((t - 1)))), .long (y - (fy ((t - 1))))]) (rest := []) (WC := []) (tyC := []) ⟨hx, hb, hml, hown, hts⟩ (tX1_turn l dC dI ((fx ((t - 1))) - (fx ((t - 2)))) ((fy ((t - 1))) - (fy ((t - 2)))) (x - (fx ((t - 1)))) (y - (fy ((t - 1))))) (cwS 4 hts gX1_append_X1_turn rfl rfl rfl (by decide +kernel) ⟨Nat.le_of_ble_eq_true rfl, Nat.le_of_ble_eq_true rfl⟩) (kPick (isC := []) hP rfl) (hK.sub [] rfl) rfl rfl hl.1 (Nat.le_of_ble_eq_true rfl) dX1_append_81 ⟨Nat.le_of_ble_eq_true rfl, Nat.le_of_ble_eq_true rfl⟩ ?_
      refine lv_lconst (v := 0) hx hb dX1_append_84 (by decide) ?_
      refine W.lcmp hx hb dX1_append_85 ?_
      refine lv_if_gt (tgt := 102) hx hb dX1_append_86 (by decide) (fun c86 => ?_) (fun c86 => ?_)
      · rw [lg_cmp_gt] at c86
        refine lv_aload_n hx hb dX1_append_102 rfl (lv_at hl 0 rfl) ?_
        refine va_get (D := (dC, dI)) (ci := 1) (v := .ref ax) (C := RX1) (T := TX1) (N := 7) hx hb hts hi1 hown hK hP 0 rfl rfl 4 (by decide) f18 (fun _ h9 => h9) rfl dX1_append_103 ?_
        refine lv_aload_n hx hb dX1_append_106 rfl (lv_at hl 0 rfl) ?_
        refine va_get (D := (dC, dI)) (ci := 1) (v := .int (nI t)) (C := RX1) (T := TX1) (N := 7) hx hb hts hi1 hown hK hP 0 rfl rfl 6 (by decide) f31 (fun _ h9 => h9) rfl dX1_append_107 ?_
        refine lv_lload_n hx hb dX1_append_110 rfl (lv_at hl 1 rfl) ?_
        refine va_last hx hb hK hP hD hS 3 0 rfl rfl (vp_in_nI (show t < 32 by omega) (by omega)) dX1_append_111 (fun H locs hP hD hS => ?_)
        rw [show (nI t).toNatClampNeg = t from nI_clamp (show t < 2 ^ 31 by omega)] at hP hD
        have hP : va_P (dC, dI) vwCl [(h0, .inr (1, [.int (nI pn), .ref ox, .ref oy, .int (nI on), .ref ax, .ref ay, .int (nI t)])), (ox, .inl (cJ, 16, .inr (.inl fox))), (oy, .inl (cJ, 16, .inr (.inl foy))), (ax, .inl (cJ, 32, .inr (.inl (vp_updL fx t x)))), (ay, .inl (cJ, 32, .inr (.inl fy)))] H := hP
        have hD : va_D A [(h0, .inr (1, [.int (nI pn), .ref ox, .ref oy, .int (nI on), .ref ax, .ref ay, .int (nI t)])), (ox, .inl (cJ, 16, .inr (.inl fox))), (oy, .inl (cJ, 16, .inr (.inl foy))), (ax, .inl (cJ, 32, .inr (.inl (vp_updL fx t x)))), (ay, .inl (cJ, 32, .inr (.inl fy)))] := hD
        refine lv_aload_n hx hb dX1_append_112 rfl (lv_at hl 0 rfl) ?_
        refine va_get (D := (dC, dI)) (ci := 1) (v := .ref ay) (C := RX1) (T := TX1) (N := 7) hx hb hts hi1 hown hK hP 0 rfl rfl 5 (by decide) f21 (fun _ h9 => h9) rfl dX1_append_113 ?_
        refine lv_aload_n hx hb dX1_append_116 rfl (lv_at hl 0 rfl) ?_
        refine va_get (D := (dC, dI)) (ci := 1) (v := .int (nI t)) (C := RX1) (T := TX1) (N := 7) hx hb hts hi1 hown hK hP 0 rfl rfl 6 (by decide) f31 (fun _ h9 => h9) rfl dX1_append_117 ?_
        refine lv_lload_n hx hb dX1_append_120 rfl (lv_at hl 2 rfl) ?_
        refine va_last hx hb hK hP hD hS 4 0 rfl rfl (vp_in_nI (show t < 32 by omega) (by omega)) dX1_append_121 (fun H locs hP hD hS => ?_)
        rw [show (nI t).toNatClampNeg = t from nI_clamp (show t < 2 ^ 31 by omega)] at hP hD
        have hP : va_P (dC, dI) vwCl [(h0, .inr (1, [.int (nI pn), .ref ox, .ref oy, .int (nI on), .ref ax, .ref ay, .int (nI t)])), (ox, .inl (cJ, 16, .inr (.inl fox))), (oy, .inl (cJ, 16, .inr (.inl foy))), (ax, .inl (cJ, 32, .inr (.inl (vp_updL fx t x)))), (ay, .inl (cJ, 32, .inr (.inl (vp_updL fy t y))))] H := hP
        have hD : va_D A [(h0, .inr (1, [.int (nI pn), .ref ox, .ref oy, .int (nI on), .ref ax, .ref ay, .int (nI t)])), (ox, .inl (cJ, 16, .inr (.inl fox))), (oy, .inl (cJ, 16, .inr (.inl foy))), (ax, .inl (cJ, 32, .inr (.inl (vp_updL fx t x)))), (ay, .inl (cJ, 32, .inr (.inl (vp_updL fy t y))))] := hD
        refine lv_aload_n hx hb dX1_append_122 rfl (lv_at hl 0 rfl) ?_
        refine lv_dup hx hb dX1_append_123 rfl ?_
        refine va_get (D := (dC, dI)) (ci := 1) (v := .int (nI t)) (C := RX1) (T := TX1) (N := 7) hx hb hts hi1 hown hK hP 0 rfl rfl 6 (by decide) f31 (fun _ h9 => h9) rfl dX1_append_124 ?_
        refine lv_iconst (v := (nI 1)) hx hb dX1_append_127 (by decide) ?_
        refine lv_iadd hx hb dX1_append_128 ?_
        rw [show (nI t) + (nI 1) = (nI (t + 1)) from nI_add t 1]
        refine va_put (D := (dC, dI)) (ci := 1) (v := .int (nI (t + 1))) (ty := .int) (C := RX1) (T := TX1) (N := 7) hx hb hts hi1 tyX1 tyX1_ok nmX1 hown hK hP hD hS 0 rfl rfl 6 (by decide) f31 (fun _ h9 => h9) rfl (by decide +kernel) rfl rfl (Nat.le_of_ble_eq_true rfl) dX1_append_129 (fun H locs hP hD hS => ?_)
        have hP : va_P (dC, dI) vwCl [(h0, .inr (1, [.int (nI pn), .ref ox, .ref oy, .int (nI on), .ref ax, .ref ay, .int (nI (t + 1))])), (ox, .inl (cJ, 16, .inr (.inl fox))), (oy, .inl (cJ, 16, .inr (.inl foy))), (ax, .inl (cJ, 32, .inr (.inl (vp_updL fx t x)))), (ay, .inl (cJ, 32, .inr (.inl (vp_updL fy t y))))] H := hP
        have hD : va_D A [(h0, .inr (1, [.int (nI pn), .ref ox, .ref oy, .int (nI on), .ref ax, .ref ay, .int (nI (t + 1))])), (ox, .inl (cJ, 16, .inr (.inl fox))), (oy, .inl (cJ, 16, .inr (.inl foy))), (ax, .inl (cJ, 32, .inr (.inl (vp_updL fx t x)))), (ay, .inl (cJ, 32, .inr (.inl (vp_updL fy t y))))] := hD
        have hq0 : (vp_updL fx (pPop fx fy x y kp n) x) = (vp_updL fx t x) := (by rw [show pPop fx fy x y kp n = t from by rw [← hE]; exact pPop_e (by first | exact Or.inl c6 | exact Or.inr c86)])
        have hq1 : (vp_updL fy (pPop fx fy x y kp n) y) = (vp_updL fy t y) := (by rw [show pPop fx fy x y kp n = t from by rw [← hE]; exact pPop_e (by first | exact Or.inl c6 | exact Or.inr c86)])
        have hq2 : (nI (pPop fx fy x y kp n + 1)) = (nI (t + 1)) := (by rw [show pPop fx fy x y kp n = t from by rw [← hE]; exact pPop_e (by first | exact Or.inl c6 | exact Or.inr c86)])
        have hw : ([(h0, .inr (1, [.int (nI pn), .ref ox, .ref oy, .int (nI on), .ref ax, .ref ay, .int (nI (t + 1))])), (ox, .inl (cJ, 16, .inr (.inl fox))), (oy, .inl (cJ, 16, .inr (.inl foy))), (ax, .inl (cJ, 32, .inr (.inl (vp_updL fx t x)))), (ay, .inl (cJ, 32, .inr (.inl (vp_updL fy t y))))] : va_W) = [(h0, .inr (1, [.int (nI pn), .ref ox, .ref oy, .int (nI on), .ref ax, .ref ay, .int (nI (pPop fx fy x y kp n + 1))])), (ox, .inl (cJ, 16, .inr (.inl fox))), (oy, .inl (cJ, 16, .inr (.inl foy))), (ax, .inl (cJ, 32, .inr (.inl (vp_updL fx (pPop fx fy x y kp n) x)))), (ay, .inl (cJ, 32, .inr (.inl (vp_updL fy (pPop fx fy x y kp n) y))))] := by rw [hq0, hq1, hq2]
        rw [hw] at hP hD
        exact kEv hx hb hr hlocks hP hK hD hS dX1_append_132
      · rw [lg_cmp_gt, Int64.not_lt] at c86
        refine lv_aload_n hx hb dX1_append_89 rfl (lv_at hl 0 rfl) ?_
        refine lv_dup hx hb dX1_append_90 rfl ?_
        refine va_get (D := (dC, dI)) (ci := 1) (v := .int (nI t)) (C := RX1) (T := TX1) (N := 7) hx hb hts hi1 hown hK hP 0 rfl rfl 6 (by decide) f31 (fun _ h9 => h9) rfl dX1_append_91 ?_
        refine lv_iconst (v := (nI 1)) hx hb dX1_append_94 (by decide) ?_
        refine lv_isub hx hb dX1_append_95 ?_
        rw [show (nI t) - (nI 1) = (nI (t - 1)) from pk_sub (show 1 ≤ t by omega)]
        refine va_put (D := (dC, dI)) (ci := 1) (v := .int (nI (t - 1))) (ty := .int) (C := RX1) (T := TX1) (N := 7) hx hb hts hi1 tyX1 tyX1_ok nmX1 hown hK hP hD hS 0 rfl rfl 6 (by decide) f31 (fun _ h9 => h9) rfl (by decide +kernel) rfl rfl (Nat.le_of_ble_eq_true rfl) dX1_append_96 (fun H locs hP hD hS => ?_)
        have hP : va_P (dC, dI) vwCl [(h0, .inr (1, [.int (nI pn), .ref ox, .ref oy, .int (nI on), .ref ax, .ref ay, .int (nI (t - 1))])), (ox, .inl (cJ, 16, .inr (.inl fox))), (oy, .inl (cJ, 16, .inr (.inl foy))), (ax, .inl (cJ, 32, .inr (.inl fx))), (ay, .inl (cJ, 32, .inr (.inl fy)))] H := hP
        have hD : va_D A [(h0, .inr (1, [.int (nI pn), .ref ox, .ref oy, .int (nI on), .ref ax, .ref ay, .int (nI (t - 1))])), (ox, .inl (cJ, 16, .inr (.inl fox))), (oy, .inl (cJ, 16, .inr (.inl foy))), (ax, .inl (cJ, 32, .inr (.inl fx))), (ay, .inl (cJ, 32, .inr (.inl fy)))] := hD
        refine lv_goto (tgt := 0) hx hb dX1_append_99 (by decide) ?_
        exact ih0 (t - 1) _ _ _ ⟨hP, hD, hS, lv_sub hl [0, 1, 2, 3] rfl, ⟨by omega, by rw [← hE, pPop_s c6 c86]⟩⟩ (by simp only []; omega)
  · exact ⟨hP, hD, hS, lv_sub hl [0, 1, 2, 3] rfl, ⟨Nat.le_refl _, rfl⟩⟩

set_option maxHeartbeats 4000000 in
set_option maxRecDepth 100000 in
theorem tX1_findCorners (l : Launch) (dC : Nat → ClassId) (dI : Nat → Nat → Nat) (cJ : ClassId) (h0 ox oy ax ay pn on n : Nat) (fox foy fx fy : Nat → Int64) (ho : 1 ≤ on) (ho2 : on ≤ 16) : MMv l yX1_findCorners wsX1_findCorners { frames := 2, cells := 0, slots := 0, locals := 52 } [.ref h0] (dC, dI) [(h0, .inr (1, [.int (nI pn), .ref ox, .ref oy, .int (nI on), .ref ax, .ref ay, .int (nI n)])), (ox, .inl (cJ, 16, .inr (.inl fox))), (oy, .inl (cJ, 16, .inr (.inl foy))), (ax, .inl (cJ, 32, .inr (.inl fx))), (ay, .inl (cJ, 32, .inr (.inl fy)))] [(h0, .inr (1, [.int (nI pn), .ref ox, .ref oy, .int (nI on), .ref ax, .ref ay, .int (nI (if 1 < on then (pCo fox foy fx fy on).2.2 - 1 else (pCo fox foy fx fy on).2.2))])), (ox, .inl (cJ, 16, .inr (.inl fox))), (oy, .inl (cJ, 16, .inr (.inl foy))), (ax, .inl (cJ, 32, .inr (.inl (pCo fox foy fx fy on).1))), (ay, .inl (cJ, 32, .inr (.inl (pCo fox foy fx fy on).2.1)))] [(cJ, .long)] := by
  intro sz
  refine kOf (cc := cX1_findCorners) (maxL := 3) (ret := none) (by decide) rfl (Nat.le_of_ble_eq_true rfl) ?_
  intro p e s m below meth c hx hb hr hml hts hown hlocks hB ls hl
  obtain ⟨hsz, hP, hK, hD0⟩ := hB
  subst hsz
  have hD := hD0.self (sz := s.heap.size)
  generalize hAe : va_A [(h0, .inr (1, [.int (nI pn), .ref ox, .ref oy, .int (nI on), .ref ax, .ref ay, .int (nI n)])), (ox, .inl (cJ, 16, .inr (.inl fox))), (oy, .inl (cJ, 16, .inr (.inl foy))), (ax, .inl (cJ, 32, .inr (.inl fx))), (ay, .inl (cJ, 32, .inr (.inl fy)))] s.heap.size = A at hD ⊢
  have hA : ∀ q : Nat, s.heap.size ≤ q → A q := fun q h => by rw [← hAe]; exact Or.inr h
  have hS : va_S A s.heap s.heap [] := va_S.rf
  have hl : lv_has ls 3 [(0, .ref h0)] := hl
  have hi1 : ∀ w ∈ u_ws RX1 TX1 7, w ∈ wsX1_findCorners := by decide +kernel
  have f9 := hts (.fieldLink RX1 9 "SweptBoxes$Hull" "outerXs" "[J") (by decide +kernel)
  have f15 := hts (.fieldLink RX1 15 "SweptBoxes$Hull" "outerYs" "[J") (by decide +kernel)
  have f28 := hts (.fieldLink RX1 28 "SweptBoxes$Hull" "outerCount" "I") (by decide +kernel)
  have f31 := hts (.fieldLink RX1 31 "SweptBoxes$Hull" "size" "I") (by decide +kernel)
  refine lv_aload_n hx hb dX1_findCorners_0 rfl (lv_at hl 0 rfl) ?_
  refine lv_iconst (v := (nI 0)) hx hb dX1_findCorners_1 (by decide) ?_
  refine va_put (D := (dC, dI)) (ci := 1) (v := .int (nI 0)) (ty := .int) (C := RX1) (T := TX1) (N := 7) hx hb hts hi1 tyX1 tyX1_ok nmX1 hown hK hP hD hS 0 rfl rfl 6 (by decide) f31 (fun _ h9 => h9) rfl (by decide +kernel) rfl rfl (Nat.le_of_ble_eq_true rfl) dX1_findCorners_2 (fun H locs hP hD hS => ?_)
  have hP : va_P (dC, dI) vwCl [(h0, .inr (1, [.int (nI pn), .ref ox, .ref oy, .int (nI on), .ref ax, .ref ay, .int (nI 0)])), (ox, .inl (cJ, 16, .inr (.inl fox))), (oy, .inl (cJ, 16, .inr (.inl foy))), (ax, .inl (cJ, 32, .inr (.inl fx))), (ay, .inl (cJ, 32, .inr (.inl fy)))] H := hP
  have hD : va_D A [(h0, .inr (1, [.int (nI pn), .ref ox, .ref oy, .int (nI on), .ref ax, .ref ay, .int (nI 0)])), (ox, .inl (cJ, 16, .inr (.inl fox))), (oy, .inl (cJ, 16, .inr (.inl foy))), (ax, .inl (cJ, 32, .inr (.inl fx))), (ay, .inl (cJ, 32, .inr (.inl fy)))] := hD
  refine lv_iconst (v := (nI 0)) hx hb dX1_findCorners_5 (by decide) ?_
  refine lv_istore_n (lv' := [(1, .int (nI 0)), (0, .ref h0)]) hx hb dX1_findCorners_6 rfl hl (by decide) rfl (fun ls hl => ?_)
  refine kLoop (σ := Nat) (fun xz H locs ls => match xz with | k => (va_P (dC, dI) vwCl [(h0, .inr (1, [.int (nI pn), .ref ox, .ref oy, .int (nI on), .ref ax, .ref ay, .int (nI (pLow fox foy fx fy k).2.2)])), (ox, .inl (cJ, 16, .inr (.inl fox))), (oy, .inl (cJ, 16, .inr (.inl foy))), (ax, .inl (cJ, 32, .inr (.inl (pLow fox foy fx fy k).1))), (ay, .inl (cJ, 32, .inr (.inl (pLow fox foy fx fy k).2.1)))] H) ∧ (va_D A [(h0, .inr (1, [.int (nI pn), .ref ox, .ref oy, .int (nI on), .ref ax, .ref ay, .int (nI (pLow fox foy fx fy k).2.2)])), (ox, .inl (cJ, 16, .inr (.inl fox))), (oy, .inl (cJ, 16, .inr (.inl foy))), (ax, .inl (cJ, 32, .inr (.inl (pLow fox foy fx fy k).1))), (ay, .inl (cJ, 32, .inr (.inl (pLow fox foy fx fy k).2.1)))]) ∧ (va_S A s.heap H locs) ∧ (lv_has ls 3 [(0, .ref h0), (1, .int (nI k))]) ∧ (k ≤ on)) (fun xz => match xz with | k => on - k) ?_ (0) ?_
  · rintro k H locs ls hI ih7
    obtain ⟨hP, hD, hS, hl, hi7_⟩ := hI
    have hpl := pLow_le fox foy fx fy k
    refine lv_iload_n hx hb dX1_findCorners_7 rfl (lv_at hl 1 rfl) ?_
    refine lv_aload_n hx hb dX1_findCorners_8 rfl (lv_at hl 0 rfl) ?_
    refine va_get (D := (dC, dI)) (ci := 1) (v := .int (nI on)) (C := RX1) (T := TX1) (N := 7) hx hb hts hi1 hown hK hP 0 rfl rfl 3 (by decide) f28 (fun _ h9 => h9) rfl dX1_findCorners_9 ?_
    refine lv_icmp_ge (tgt := 38) hx hb dX1_findCorners_12 (by decide) (fun c12 => ?_) (fun c12 => ?_)
    · rw [nI_leI (by omega) (by omega)] at c12
      have hkn : on = k := by omega
      subst hkn
      have hpg := pLow_ge fox foy fx fy ho
      refine lv_aload_n hx hb dX1_findCorners_38 rfl (lv_at hl 0 rfl) ?_
      refine va_get (D := (dC, dI)) (ci := 1) (v := .int (nI (pLow fox foy fx fy on).2.2)) (C := RX1) (T := TX1) (N := 7) hx hb hts hi1 hown hK hP 0 rfl rfl 6 (by decide) f31 (fun _ h9 => h9) rfl dX1_findCorners_39 ?_
      refine lv_istore_n (lv' := [(1, .int (nI (pLow fox foy fx fy on).2.2)), (0, .ref h0)]) hx hb dX1_findCorners_42 rfl hl (by decide) rfl (fun ls hl => ?_)
      refine lv_aload_n hx hb dX1_findCorners_43 rfl (lv_at hl 1 rfl) ?_
      refine va_get (D := (dC, dI)) (ci := 1) (v := .int (nI on)) (C := RX1) (T := TX1) (N := 7) hx hb hts hi1 hown hK hP 0 rfl rfl 3 (by decide) f28 (fun _ h9 => h9) rfl dX1_findCorners_44 ?_
      refine lv_iconst (v := (nI 2)) hx hb dX1_findCorners_47 (by decide) ?_
      refine lv_isub hx hb dX1_findCorners_48 ?_
      rw [show nI on - nI 2 = nI (on - 1) - 1 from fc_sub ho]
      refine lv_istore_n (lv' := [(2, .int ((nI (on - 1)) - 1)), (1, .int (nI (pLow fox foy fx fy on).2.2)), (0, .ref h0)]) hx hb dX1_findCorners_49 rfl hl (by decide) rfl (fun ls hl => ?_)
      refine kLoop (σ := Nat × (Nat → Int64) × (Nat → Int64) × Nat) (fun xz H locs ls => match xz with | (j, gx, gy, t) => (va_P (dC, dI) vwCl [(h0, .inr (1, [.int (nI pn), .ref ox, .ref oy, .int (nI on), .ref ax, .ref ay, .int (nI t)])), (ox, .inl (cJ, 16, .inr (.inl fox))), (oy, .inl (cJ, 16, .inr (.inl foy))), (ax, .inl (cJ, 32, .inr (.inl gx))), (ay, .inl (cJ, 32, .inr (.inl gy)))] H) ∧ (va_D A [(h0, .inr (1, [.int (nI pn), .ref ox, .ref oy, .int (nI on), .ref ax, .ref ay, .int (nI t)])), (ox, .inl (cJ, 16, .inr (.inl fox))), (oy, .inl (cJ, 16, .inr (.inl foy))), (ax, .inl (cJ, 32, .inr (.inl gx))), (ay, .inl (cJ, 32, .inr (.inl gy)))]) ∧ (va_S A s.heap H locs) ∧ (lv_has ls 3 [(0, .ref h0), (1, .int (nI (pLow fox foy fx fy on).2.2)), (2, .int ((nI j) - 1))]) ∧ (j ≤ on - 1 ∧ t + j ≤ 31 ∧ 1 ≤ t ∧ pUpp fox foy (pLow fox foy fx fy on).2.2 j (gx, gy, t) = (pCo fox foy fx fy on))) (fun xz => match xz with | (j, gx, gy, t) => j) ?_ (on - 1, (pLow fox foy fx fy on).1, (pLow fox foy fx fy on).2.1, (pLow fox foy fx fy on).2.2) ?_
      · rintro ⟨j, gx, gy, t⟩ H locs ls hI ih50
        obtain ⟨hP, hD, hS, hl, hi50_⟩ := hI
        obtain ⟨hj, ht1, ht2, hU⟩ := hi50_
        refine lv_iload_n hx hb dX1_findCorners_50 rfl (lv_at hl 2 rfl) ?_
        refine lv_if_lt (tgt := 77) hx hb dX1_findCorners_51 (by decide) (fun c51 => ?_) (fun c51 => ?_)
        · skip
          have hj0 : j = 0 := fc_lt c51 (by omega)
          refine lv_aload_n hx hb dX1_findCorners_77 rfl (lv_at hl 0 rfl) ?_
          refine va_get (D := (dC, dI)) (ci := 1) (v := .int (nI on)) (C := RX1) (T := TX1) (N := 7) hx hb hts hi1 hown hK hP 0 rfl rfl 3 (by decide) f28 (fun _ h9 => h9) rfl dX1_findCorners_78 ?_
          refine lv_iconst (v := (nI 1)) hx hb dX1_findCorners_81 (by decide) ?_
          refine lv_icmp_le (tgt := 95) hx hb dX1_findCorners_82 (by decide) (fun c82 => ?_) (fun c82 => ?_)
          · rw [nI_leI (by omega) (by omega)] at c82
            have hq0 : (nI (if 1 < on then (pCo fox foy fx fy on).2.2 - 1 else (pCo fox foy fx fy on).2.2)) = (nI t) := (by first | (rw [← hU, hj0]; rfl) | (rw [← hU, hj0, if_pos (by omega)]; rfl) | (rw [← hU, hj0, if_neg (by omega)]; rfl))
            have hq1 : (pCo fox foy fx fy on).2.1 = gy := (by first | (rw [← hU, hj0]; rfl) | (rw [← hU, hj0, if_pos (by omega)]; rfl) | (rw [← hU, hj0, if_neg (by omega)]; rfl))
            have hq2 : (pCo fox foy fx fy on).1 = gx := (by first | (rw [← hU, hj0]; rfl) | (rw [← hU, hj0, if_pos (by omega)]; rfl) | (rw [← hU, hj0, if_neg (by omega)]; rfl))
            have hw : ([(h0, .inr (1, [.int (nI pn), .ref ox, .ref oy, .int (nI on), .ref ax, .ref ay, .int (nI t)])), (ox, .inl (cJ, 16, .inr (.inl fox))), (oy, .inl (cJ, 16, .inr (.inl foy))), (ax, .inl (cJ, 32, .inr (.inl gx))), (ay, .inl (cJ, 32, .inr (.inl gy)))] : va_W) = [(h0, .inr (1, [.int (nI pn), .ref ox, .ref oy, .int (nI on), .ref ax, .ref ay, .int (nI (if 1 < on then (pCo fox foy fx fy on).2.2 - 1 else (pCo fox foy fx fy on).2.2))])), (ox, .inl (cJ, 16, .inr (.inl fox))), (oy, .inl (cJ, 16, .inr (.inl foy))), (ax, .inl (cJ, 32, .inr (.inl (pCo fox foy fx fy on).1))), (ay, .inl (cJ, 32, .inr (.inl (pCo fox foy fx fy on).2.1)))] := by rw [hq0, hq1, hq2]
            rw [hw] at hP hD
            exact kEv hx hb hr hlocks hP hK hD hS dX1_findCorners_95
          · rw [nI_leI (by omega) (by omega), Nat.not_le] at c82
            refine lv_aload_n hx hb dX1_findCorners_85 rfl (lv_at hl 0 rfl) ?_
            refine lv_dup hx hb dX1_findCorners_86 rfl ?_
            refine va_get (D := (dC, dI)) (ci := 1) (v := .int (nI t)) (C := RX1) (T := TX1) (N := 7) hx hb hts hi1 hown hK hP 0 rfl rfl 6 (by decide) f31 (fun _ h9 => h9) rfl dX1_findCorners_87 ?_
            refine lv_iconst (v := (nI 1)) hx hb dX1_findCorners_90 (by decide) ?_
            refine lv_isub hx hb dX1_findCorners_91 ?_
            rw [show (nI t) - (nI 1) = (nI (t - 1)) from pk_sub (show 1 ≤ t by omega)]
            refine va_put (D := (dC, dI)) (ci := 1) (v := .int (nI (t - 1))) (ty := .int) (C := RX1) (T := TX1) (N := 7) hx hb hts hi1 tyX1 tyX1_ok nmX1 hown hK hP hD hS 0 rfl rfl 6 (by decide) f31 (fun _ h9 => h9) rfl (by decide +kernel) rfl rfl (Nat.le_of_ble_eq_true rfl) dX1_findCorners_92 (fun H locs hP hD hS => ?_)
            have hP : va_P (dC, dI) vwCl [(h0, .inr (1, [.int (nI pn), .ref ox, .ref oy, .int (nI on), .ref ax, .ref ay, .int (nI (t - 1))])), (ox, .inl (cJ, 16, .inr (.inl fox))), (oy, .inl (cJ, 16, .inr (.inl foy))), (ax, .inl (cJ, 32, .inr (.inl gx))), (ay, .inl (cJ, 32, .inr (.inl gy)))] H := hP
            have hD : va_D A [(h0, .inr (1, [.int (nI pn), .ref ox, .ref oy, .int (nI on), .ref ax, .ref ay, .int (nI (t - 1))])), (ox, .inl (cJ, 16, .inr (.inl fox))), (oy, .inl (cJ, 16, .inr (.inl foy))), (ax, .inl (cJ, 32, .inr (.inl gx))), (ay, .inl (cJ, 32, .inr (.inl gy)))] := hD
            have hq0 : (nI (if 1 < on then (pCo fox foy fx fy on).2.2 - 1 else (pCo fox foy fx fy on).2.2)) = (nI (t - 1)) := (by first | (rw [← hU, hj0]; rfl) | (rw [← hU, hj0, if_pos (by omega)]; rfl) | (rw [← hU, hj0, if_neg (by omega)]; rfl))
            have hq1 : (pCo fox foy fx fy on).2.1 = gy := (by first | (rw [← hU, hj0]; rfl) | (rw [← hU, hj0, if_pos (by omega)]; rfl) | (rw [← hU, hj0, if_neg (by omega)]; rfl))
            have hq2 : (pCo fox foy fx fy on).1 = gx := (by first | (rw [← hU, hj0]; rfl) | (rw [← hU, hj0, if_pos (by omega)]; rfl) | (rw [← hU, hj0, if_neg (by omega)]; rfl))
            have hw : ([(h0, .inr (1, [.int (nI pn), .ref ox, .ref oy, .int (nI on), .ref ax, .ref ay, .int (nI (t - 1))])), (ox, .inl (cJ, 16, .inr (.inl fox))), (oy, .inl (cJ, 16, .inr (.inl foy))), (ax, .inl (cJ, 32, .inr (.inl gx))), (ay, .inl (cJ, 32, .inr (.inl gy)))] : va_W) = [(h0, .inr (1, [.int (nI pn), .ref ox, .ref oy, .int (nI on), .ref ax, .ref ay, .int (nI (if 1 < on then (pCo fox foy fx fy on).2.2 - 1 else (pCo fox foy fx fy on).2.2))])), (ox, .inl (cJ, 16, .inr (.inl fox))), (oy, .inl (cJ, 16, .inr (.inl foy))), (ax, .inl (cJ, 32, .inr (.inl (pCo fox foy fx fy on).1))), (ay, .inl (cJ, 32, .inr (.inl (pCo fox foy fx fy on).2.1)))] := by rw [hq0, hq1, hq2]
            rw [hw] at hP hD
            exact kEv hx hb hr hlocks hP hK hD hS dX1_findCorners_95
        · skip
          have hj0 : 0 < j := fc_nlt c51
          rw [fc_pos hj0] at hl
          have hl : lv_has ls 3 [(2, .int (nI (j - 1))), (0, .ref h0), (1, .int (nI (pLow fox foy fx fy on).2.2))] := lv_sub hl [2, 0, 1] rfl
          refine lv_aload_n hx hb dX1_findCorners_54 rfl (lv_at hl 1 rfl) ?_
          refine lv_aload_n hx hb dX1_findCorners_55 rfl (lv_at hl 1 rfl) ?_
          refine va_get (D := (dC, dI)) (ci := 1) (v := .ref ox) (C := RX1) (T := TX1) (N := 7) hx hb hts hi1 hown hK hP 0 rfl rfl 1 (by decide) f9 (fun _ h9 => h9) rfl dX1_findCorners_56 ?_
          refine lv_iload_n hx hb dX1_findCorners_59 rfl (lv_at hl 0 rfl) ?_
          refine va_lald hx hb hK hP 1 0 rfl rfl (vp_in_nI (show (j - 1) < 16 by omega) (by omega)) dX1_findCorners_60 ?_
          rw [show (nI (j - 1)).toNatClampNeg = (j - 1) from nI_clamp (show (j - 1) < 2 ^ 31 by omega)]
          refine lv_aload_n hx hb dX1_findCorners_61 rfl (lv_at hl 1 rfl) ?_
          refine va_get (D := (dC, dI)) (ci := 1) (v := .ref oy) (C := RX1) (T := TX1) (N := 7) hx hb hts hi1 hown hK hP 0 rfl rfl 2 (by decide) f15 (fun _ h9 => h9) rfl dX1_findCorners_62 ?_
          refine lv_iload_n hx hb dX1_findCorners_65 rfl (lv_at hl 0 rfl) ?_
          refine va_lald hx hb hK hP 2 0 rfl rfl (vp_in_nI (show (j - 1) < 16 by omega) (by omega)) dX1_findCorners_66 ?_
          rw [show (nI (j - 1)).toNatClampNeg = (j - 1) from nI_clamp (show (j - 1) < 2 ^ 31 by omega)]
          refine lv_iload_n hx hb dX1_findCorners_67 rfl (lv_at hl 2 rfl) ?_
          refine kmVv (q0 := 0) (ci := 1) (As := [.long (fox ((j - 1))), .long (foy ((j - 1))), .int (nI (pLow fox foy fx fy on).2.2)]) (rest := []) (WC := [(h0, .inr (1, [.int (nI pn), .ref ox, .ref oy, .int (nI on), .ref ax, .ref ay, .int (nI t)])), (ox, .inl (cJ, 16, .inr (.inl fox))), (oy, .inl (cJ, 16, .inr (.inl foy))), (ax, .inl (cJ, 32, .inr (.inl gx))), (ay, .inl (cJ, 32, .inr (.inl gy)))]) (W2 := [(h0, .inr (1, [.int (nI pn), .ref ox, .ref oy, .int (nI on), .ref ax, .ref ay, .int (nI (pPop gx gy (fox ((j - 1))) (foy ((j - 1))) ((pLow fox foy fx fy on).2.2) t + 1))])), (ox, .inl (cJ, 16, .inr (.inl fox))), (oy, .inl (cJ, 16, .inr (.inl foy))), (ax, .inl (cJ, 32, .inr (.inl (vp_updL gx (pPop gx gy (fox ((j - 1))) (foy ((j - 1))) ((pLow fox foy fx fy on).2.2) t) (fox ((j - 1))))))), (ay, .inl (cJ, 32, .inr (.inl (vp_updL gy (pPop gx gy (fox ((j - 1))) (foy ((j - 1))) ((pLow fox foy fx fy on).2.2) t) (foy ((j - 1)))))))]) (WR := []) (WN := [(h0, .inr (1, [.int (nI pn), .ref ox, .ref oy, .int (nI on), .ref ax, .ref ay, .int (nI (pPop gx gy (fox ((j - 1))) (foy ((j - 1))) ((pLow fox foy fx fy on).2.2) t + 1))])), (ox, .inl (cJ, 16, .inr (.inl fox))), (oy, .inl (cJ, 16, .inr (.inl foy))), (ax, .inl (cJ, 32, .inr (.inl (vp_updL gx (pPop gx gy (fox ((j - 1))) (foy ((j - 1))) ((pLow fox foy fx fy on).2.2) t) (fox ((j - 1))))))), (ay, .inl (cJ, 32, .inr (.inl (vp_updL gy (pPop gx gy (fox ((j - 1))) (foy ((j - 1))) ((pLow fox foy fx fy on).2.2) t) (foy ((j - 1)))))))]) (tyC := [(cJ, .long)]) (isC := [0, 1, 2, 3, 4]) (isR := []) (isN := [0, 1, 2, 3, 4]) (its := [0]) ⟨hx, hb, hml, hown, hts⟩ (tX1_append l dC dI cJ h0 ox oy ax ay pn on t fox foy gx gy (fox ((j - 1))) (foy ((j - 1))) ((pLow fox foy fx fy on).2.2) (by omega) (by omega) (by omega)) (cwV 3 hts gX1_findCorners_X1_append rfl rfl rfl (by decide +kernel) ⟨Nat.le_of_ble_eq_true rfl, Nat.le_of_ble_eq_true rfl⟩) hP hD hA hS hK rfl (by decide) rfl (by decide) (by decide) rfl (by decide) rfl rfl rfl rfl rfl hl.1 (Nat.le_of_ble_eq_true rfl) dX1_findCorners_68 ⟨Nat.le_of_ble_eq_true rfl, Nat.le_of_ble_eq_true rfl⟩ (fun H locs hP hD hS => ?_)
          refine lv_iinc (v := ((nI (j - 1)) - 1)) (lv' := [(2, .int ((nI (j - 1)) - 1)), (0, .ref h0), (1, .int (nI (pLow fox foy fx fy on).2.2))]) hx hb dX1_findCorners_71 hl (k := 0) rfl (by rw [Int32.sub_eq_add_neg]; rfl) (by decide) rfl (fun ls hl => ?_)
          refine lv_goto (tgt := 50) hx hb dX1_findCorners_74 (by decide) ?_
          have hpp := pPop_le gx gy (fox (j - 1)) (foy (j - 1)) (pLow fox foy fx fy on).2.2 t
          exact ih50 (j - 1, vp_updL gx (pPop gx gy (fox (j - 1)) (foy (j - 1)) (pLow fox foy fx fy on).2.2 t) (fox (j - 1)), vp_updL gy (pPop gx gy (fox (j - 1)) (foy (j - 1)) (pLow fox foy fx fy on).2.2 t) (foy (j - 1)), pPop gx gy (fox (j - 1)) (foy (j - 1)) (pLow fox foy fx fy on).2.2 t + 1) _ _ _ ⟨hP, hD, hS, lv_sub hl [1, 2, 0] rfl, ⟨by omega, by omega, by omega, by rw [← hU, pUpp_s hj0]; rfl⟩⟩ (by simp only []; omega)
      · exact ⟨hP, hD, hS, lv_sub hl [2, 1, 0] rfl, ⟨Nat.le_refl _, by omega, by omega, rfl⟩⟩
    · rw [nI_leI (by omega) (by omega), Nat.not_le] at c12
      refine lv_aload_n hx hb dX1_findCorners_15 rfl (lv_at hl 0 rfl) ?_
      refine lv_aload_n hx hb dX1_findCorners_16 rfl (lv_at hl 0 rfl) ?_
      refine va_get (D := (dC, dI)) (ci := 1) (v := .ref ox) (C := RX1) (T := TX1) (N := 7) hx hb hts hi1 hown hK hP 0 rfl rfl 1 (by decide) f9 (fun _ h9 => h9) rfl dX1_findCorners_17 ?_
      refine lv_iload_n hx hb dX1_findCorners_20 rfl (lv_at hl 1 rfl) ?_
      refine va_lald hx hb hK hP 1 0 rfl rfl (vp_in_nI (show k < 16 by omega) (by omega)) dX1_findCorners_21 ?_
      rw [show (nI k).toNatClampNeg = k from nI_clamp (show k < 2 ^ 31 by omega)]
      refine lv_aload_n hx hb dX1_findCorners_22 rfl (lv_at hl 0 rfl) ?_
      refine va_get (D := (dC, dI)) (ci := 1) (v := .ref oy) (C := RX1) (T := TX1) (N := 7) hx hb hts hi1 hown hK hP 0 rfl rfl 2 (by decide) f15 (fun _ h9 => h9) rfl dX1_findCorners_23 ?_
      refine lv_iload_n hx hb dX1_findCorners_26 rfl (lv_at hl 1 rfl) ?_
      refine va_lald hx hb hK hP 2 0 rfl rfl (vp_in_nI (show k < 16 by omega) (by omega)) dX1_findCorners_27 ?_
      rw [show (nI k).toNatClampNeg = k from nI_clamp (show k < 2 ^ 31 by omega)]
      refine lv_iconst (v := (nI 1)) hx hb dX1_findCorners_28 (by decide) ?_
      refine kmVv (q0 := 0) (ci := 1) (As := [.long (fox k), .long (foy k), .int (nI 1)]) (rest := []) (WC := [(h0, .inr (1, [.int (nI pn), .ref ox, .ref oy, .int (nI on), .ref ax, .ref ay, .int (nI (pLow fox foy fx fy k).2.2)])), (ox, .inl (cJ, 16, .inr (.inl fox))), (oy, .inl (cJ, 16, .inr (.inl foy))), (ax, .inl (cJ, 32, .inr (.inl (pLow fox foy fx fy k).1))), (ay, .inl (cJ, 32, .inr (.inl (pLow fox foy fx fy k).2.1)))]) (W2 := [(h0, .inr (1, [.int (nI pn), .ref ox, .ref oy, .int (nI on), .ref ax, .ref ay, .int (nI (pPop ((pLow fox foy fx fy k).1) ((pLow fox foy fx fy k).2.1) (fox k) (foy k) 1 ((pLow fox foy fx fy k).2.2) + 1))])), (ox, .inl (cJ, 16, .inr (.inl fox))), (oy, .inl (cJ, 16, .inr (.inl foy))), (ax, .inl (cJ, 32, .inr (.inl (vp_updL ((pLow fox foy fx fy k).1) (pPop ((pLow fox foy fx fy k).1) ((pLow fox foy fx fy k).2.1) (fox k) (foy k) 1 ((pLow fox foy fx fy k).2.2)) (fox k))))), (ay, .inl (cJ, 32, .inr (.inl (vp_updL ((pLow fox foy fx fy k).2.1) (pPop ((pLow fox foy fx fy k).1) ((pLow fox foy fx fy k).2.1) (fox k) (foy k) 1 ((pLow fox foy fx fy k).2.2)) (foy k)))))]) (WR := []) (WN := [(h0, .inr (1, [.int (nI pn), .ref ox, .ref oy, .int (nI on), .ref ax, .ref ay, .int (nI (pPop ((pLow fox foy fx fy k).1) ((pLow fox foy fx fy k).2.1) (fox k) (foy k) 1 ((pLow fox foy fx fy k).2.2) + 1))])), (ox, .inl (cJ, 16, .inr (.inl fox))), (oy, .inl (cJ, 16, .inr (.inl foy))), (ax, .inl (cJ, 32, .inr (.inl (vp_updL ((pLow fox foy fx fy k).1) (pPop ((pLow fox foy fx fy k).1) ((pLow fox foy fx fy k).2.1) (fox k) (foy k) 1 ((pLow fox foy fx fy k).2.2)) (fox k))))), (ay, .inl (cJ, 32, .inr (.inl (vp_updL ((pLow fox foy fx fy k).2.1) (pPop ((pLow fox foy fx fy k).1) ((pLow fox foy fx fy k).2.1) (fox k) (foy k) 1 ((pLow fox foy fx fy k).2.2)) (foy k)))))]) (tyC := [(cJ, .long)]) (isC := [0, 1, 2, 3, 4]) (isR := []) (isN := [0, 1, 2, 3, 4]) (its := [0]) ⟨hx, hb, hml, hown, hts⟩ (tX1_append l dC dI cJ h0 ox oy ax ay pn on ((pLow fox foy fx fy k).2.2) fox foy ((pLow fox foy fx fy k).1) ((pLow fox foy fx fy k).2.1) (fox k) (foy k) 1 (by omega) (by omega) (by omega)) (cwV 3 hts gX1_findCorners_X1_append rfl rfl rfl (by decide +kernel) ⟨Nat.le_of_ble_eq_true rfl, Nat.le_of_ble_eq_true rfl⟩) hP hD hA hS hK rfl (by decide) rfl (by decide) (by decide) rfl (by decide) rfl rfl rfl rfl rfl hl.1 (Nat.le_of_ble_eq_true rfl) dX1_findCorners_29 ⟨Nat.le_of_ble_eq_true rfl, Nat.le_of_ble_eq_true rfl⟩ (fun H locs hP hD hS => ?_)
      refine lv_iinc (v := (nI (k + 1))) (lv' := [(1, .int (nI (k + 1))), (0, .ref h0)]) hx hb dX1_findCorners_32 hl (k := 1) rfl (show (nI k) + Int32.ofInt 1 = nI (k + 1) from nI_add k 1) (by decide) rfl (fun ls hl => ?_)
      refine lv_goto (tgt := 7) hx hb dX1_findCorners_35 (by decide) ?_
      exact ih7 (k + 1) _ _ _ ⟨hP, hD, hS, lv_sub hl [1, 0] rfl, (by omega)⟩ (by simp only []; omega)
  · exact ⟨hP, hD, hS, lv_sub hl [1, 0] rfl, Nat.zero_le _⟩

set_option maxHeartbeats 4000000 in
set_option maxRecDepth 100000 in
theorem tX1_empty (l : Launch) (dC : Nat → ClassId) (dI : Nat → Nat → Nat) (cJ : ClassId) (h0 ox oy ax ay pn on n : Nat) (fox foy fx fy : Nat → Int64)  : MMv l yX1_empty wsX1_empty { frames := 0, cells := 0, slots := 0, locals := 0 } [.ref h0] (dC, dI) [(h0, .inr (1, [.int (nI pn), .ref ox, .ref oy, .int (nI on), .ref ax, .ref ay, .int (nI n)])), (ox, .inl (cJ, 16, .inr (.inl fox))), (oy, .inl (cJ, 16, .inr (.inl foy))), (ax, .inl (cJ, 32, .inr (.inl fx))), (ay, .inl (cJ, 32, .inr (.inl fy)))] [(h0, .inr (1, [.int (nI 0), .ref ox, .ref oy, .int (nI 0), .ref ax, .ref ay, .int (nI 0)])), (ox, .inl (cJ, 16, .inr (.inl fox))), (oy, .inl (cJ, 16, .inr (.inl foy))), (ax, .inl (cJ, 32, .inr (.inl fx))), (ay, .inl (cJ, 32, .inr (.inl fy)))] [(cJ, .long)] := by
  intro sz
  refine kOf (cc := cX1_empty) (maxL := 1) (ret := none) (by decide) rfl (Nat.le_of_ble_eq_true rfl) ?_
  intro p e s m below meth c hx hb hr hml hts hown hlocks hB ls hl
  obtain ⟨hsz, hP, hK, hD0⟩ := hB
  subst hsz
  have hD := hD0.self (sz := s.heap.size)
  generalize hAe : va_A [(h0, .inr (1, [.int (nI pn), .ref ox, .ref oy, .int (nI on), .ref ax, .ref ay, .int (nI n)])), (ox, .inl (cJ, 16, .inr (.inl fox))), (oy, .inl (cJ, 16, .inr (.inl foy))), (ax, .inl (cJ, 32, .inr (.inl fx))), (ay, .inl (cJ, 32, .inr (.inl fy)))] s.heap.size = A at hD ⊢
  have hA : ∀ q : Nat, s.heap.size ≤ q → A q := fun q h => by rw [← hAe]; exact Or.inr h
  have hS : va_S A s.heap s.heap [] := va_S.rf
  have hl : lv_has ls 1 [(0, .ref h0)] := hl
  have hi1 : ∀ w ∈ u_ws RX1 TX1 7, w ∈ wsX1_empty := by decide +kernel
  have f24 := hts (.fieldLink RX1 24 "SweptBoxes$Hull" "pointCount" "I") (by decide +kernel)
  have f28 := hts (.fieldLink RX1 28 "SweptBoxes$Hull" "outerCount" "I") (by decide +kernel)
  have f31 := hts (.fieldLink RX1 31 "SweptBoxes$Hull" "size" "I") (by decide +kernel)
  refine lv_aload_n hx hb dX1_empty_0 rfl (lv_at hl 0 rfl) ?_
  refine lv_iconst (v := (nI 0)) hx hb dX1_empty_1 (by decide) ?_
  refine va_put (D := (dC, dI)) (ci := 1) (v := .int (nI 0)) (ty := .int) (C := RX1) (T := TX1) (N := 7) hx hb hts hi1 tyX1 tyX1_ok nmX1 hown hK hP hD hS 0 rfl rfl 0 (by decide) f24 (fun _ h9 => h9) rfl (by decide +kernel) rfl rfl (Nat.le_of_ble_eq_true rfl) dX1_empty_2 (fun H locs hP hD hS => ?_)
  have hP : va_P (dC, dI) vwCl [(h0, .inr (1, [.int (nI 0), .ref ox, .ref oy, .int (nI on), .ref ax, .ref ay, .int (nI n)])), (ox, .inl (cJ, 16, .inr (.inl fox))), (oy, .inl (cJ, 16, .inr (.inl foy))), (ax, .inl (cJ, 32, .inr (.inl fx))), (ay, .inl (cJ, 32, .inr (.inl fy)))] H := hP
  have hD : va_D A [(h0, .inr (1, [.int (nI 0), .ref ox, .ref oy, .int (nI on), .ref ax, .ref ay, .int (nI n)])), (ox, .inl (cJ, 16, .inr (.inl fox))), (oy, .inl (cJ, 16, .inr (.inl foy))), (ax, .inl (cJ, 32, .inr (.inl fx))), (ay, .inl (cJ, 32, .inr (.inl fy)))] := hD
  refine lv_aload_n hx hb dX1_empty_5 rfl (lv_at hl 0 rfl) ?_
  refine lv_iconst (v := (nI 0)) hx hb dX1_empty_6 (by decide) ?_
  refine va_put (D := (dC, dI)) (ci := 1) (v := .int (nI 0)) (ty := .int) (C := RX1) (T := TX1) (N := 7) hx hb hts hi1 tyX1 tyX1_ok nmX1 hown hK hP hD hS 0 rfl rfl 3 (by decide) f28 (fun _ h9 => h9) rfl (by decide +kernel) rfl rfl (Nat.le_of_ble_eq_true rfl) dX1_empty_7 (fun H locs hP hD hS => ?_)
  have hP : va_P (dC, dI) vwCl [(h0, .inr (1, [.int (nI 0), .ref ox, .ref oy, .int (nI 0), .ref ax, .ref ay, .int (nI n)])), (ox, .inl (cJ, 16, .inr (.inl fox))), (oy, .inl (cJ, 16, .inr (.inl foy))), (ax, .inl (cJ, 32, .inr (.inl fx))), (ay, .inl (cJ, 32, .inr (.inl fy)))] H := hP
  have hD : va_D A [(h0, .inr (1, [.int (nI 0), .ref ox, .ref oy, .int (nI 0), .ref ax, .ref ay, .int (nI n)])), (ox, .inl (cJ, 16, .inr (.inl fox))), (oy, .inl (cJ, 16, .inr (.inl foy))), (ax, .inl (cJ, 32, .inr (.inl fx))), (ay, .inl (cJ, 32, .inr (.inl fy)))] := hD
  refine lv_aload_n hx hb dX1_empty_10 rfl (lv_at hl 0 rfl) ?_
  refine lv_iconst (v := (nI 0)) hx hb dX1_empty_11 (by decide) ?_
  refine va_put (D := (dC, dI)) (ci := 1) (v := .int (nI 0)) (ty := .int) (C := RX1) (T := TX1) (N := 7) hx hb hts hi1 tyX1 tyX1_ok nmX1 hown hK hP hD hS 0 rfl rfl 6 (by decide) f31 (fun _ h9 => h9) rfl (by decide +kernel) rfl rfl (Nat.le_of_ble_eq_true rfl) dX1_empty_12 (fun H locs hP hD hS => ?_)
  have hP : va_P (dC, dI) vwCl [(h0, .inr (1, [.int (nI 0), .ref ox, .ref oy, .int (nI 0), .ref ax, .ref ay, .int (nI 0)])), (ox, .inl (cJ, 16, .inr (.inl fox))), (oy, .inl (cJ, 16, .inr (.inl foy))), (ax, .inl (cJ, 32, .inr (.inl fx))), (ay, .inl (cJ, 32, .inr (.inl fy)))] H := hP
  have hD : va_D A [(h0, .inr (1, [.int (nI 0), .ref ox, .ref oy, .int (nI 0), .ref ax, .ref ay, .int (nI 0)])), (ox, .inl (cJ, 16, .inr (.inl fox))), (oy, .inl (cJ, 16, .inr (.inl foy))), (ax, .inl (cJ, 32, .inr (.inl fx))), (ay, .inl (cJ, 32, .inr (.inl fy)))] := hD
  exact kEv hx hb hr hlocks hP hK hD hS dX1_empty_15

set_option maxHeartbeats 4000000 in
set_option maxRecDepth 100000 in
theorem tX1_take_t (l : Launch) (dC : Nat → ClassId) (dI : Nat → Nat → Nat) (cJ : ClassId) (h0 ox oy ax ay pn on n : Nat) (fox foy fx fy : Nat → Int64) (x y : Int64) (hn : n ≤ 32) (ho : on < 16) (hp : pn < 1000) (hh : pHolds fx fy n x y = true) : MMi l yX1_take wsX1_take { frames := 5, cells := 0, slots := 0, locals := 128 } [.ref h0, .long x, .long y] (dC, dI) [(h0, .inr (1, [.int (nI pn), .ref ox, .ref oy, .int (nI on), .ref ax, .ref ay, .int (nI n)])), (ox, .inl (cJ, 16, .inr (.inl fox))), (oy, .inl (cJ, 16, .inr (.inl foy))), (ax, .inl (cJ, 32, .inr (.inl fx))), (ay, .inl (cJ, 32, .inr (.inl fy)))] [(h0, .inr (1, [.int (nI (pn + 1)), .ref ox, .ref oy, .int (nI on), .ref ax, .ref ay, .int (nI n)])), (ox, .inl (cJ, 16, .inr (.inl fox))), (oy, .inl (cJ, 16, .inr (.inl foy))), (ax, .inl (cJ, 32, .inr (.inl fx))), (ay, .inl (cJ, 32, .inr (.inl fy)))] [(cJ, .long)] (bI false) := by
  intro sz
  refine kOf (cc := cX1_take) (maxL := 5) (ret := (some .boolean)) (by decide) rfl (Nat.le_of_ble_eq_true rfl) ?_
  intro p e s m below meth c hx hb hr hml hts hown hlocks hB ls hl
  obtain ⟨hsz, hP, hK, hD0⟩ := hB
  subst hsz
  have hD := hD0.self (sz := s.heap.size)
  generalize hAe : va_A [(h0, .inr (1, [.int (nI pn), .ref ox, .ref oy, .int (nI on), .ref ax, .ref ay, .int (nI n)])), (ox, .inl (cJ, 16, .inr (.inl fox))), (oy, .inl (cJ, 16, .inr (.inl foy))), (ax, .inl (cJ, 32, .inr (.inl fx))), (ay, .inl (cJ, 32, .inr (.inl fy)))] s.heap.size = A at hD ⊢
  have hA : ∀ q : Nat, s.heap.size ≤ q → A q := fun q h => by rw [← hAe]; exact Or.inr h
  have hS : va_S A s.heap s.heap [] := va_S.rf
  have hl : lv_has ls 5 [(0, .ref h0), (1, .long x), (3, .long y)] := hl
  have hi1 : ∀ w ∈ u_ws RX1 TX1 7, w ∈ wsX1_take := by decide +kernel
  have f24 := hts (.fieldLink RX1 24 "SweptBoxes$Hull" "pointCount" "I") (by decide +kernel)
  refine lv_aload_n hx hb dX1_take_0 rfl (lv_at hl 0 rfl) ?_
  refine lv_dup hx hb dX1_take_1 rfl ?_
  refine va_get (D := (dC, dI)) (ci := 1) (v := .int (nI pn)) (C := RX1) (T := TX1) (N := 7) hx hb hts hi1 hown hK hP 0 rfl rfl 0 (by decide) f24 (fun _ h9 => h9) rfl dX1_take_2 ?_
  refine lv_iconst (v := (nI 1)) hx hb dX1_take_5 (by decide) ?_
  refine lv_iadd hx hb dX1_take_6 ?_
  rw [show (nI pn) + (nI 1) = (nI (pn + 1)) from nI_add pn 1]
  refine va_put (D := (dC, dI)) (ci := 1) (v := .int (nI (pn + 1))) (ty := .int) (C := RX1) (T := TX1) (N := 7) hx hb hts hi1 tyX1 tyX1_ok nmX1 hown hK hP hD hS 0 rfl rfl 0 (by decide) f24 (fun _ h9 => h9) rfl (by decide +kernel) rfl rfl (Nat.le_of_ble_eq_true rfl) dX1_take_7 (fun H locs hP hD hS => ?_)
  have hP : va_P (dC, dI) vwCl [(h0, .inr (1, [.int (nI (pn + 1)), .ref ox, .ref oy, .int (nI on), .ref ax, .ref ay, .int (nI n)])), (ox, .inl (cJ, 16, .inr (.inl fox))), (oy, .inl (cJ, 16, .inr (.inl foy))), (ax, .inl (cJ, 32, .inr (.inl fx))), (ay, .inl (cJ, 32, .inr (.inl fy)))] H := hP
  have hD : va_D A [(h0, .inr (1, [.int (nI (pn + 1)), .ref ox, .ref oy, .int (nI on), .ref ax, .ref ay, .int (nI n)])), (ox, .inl (cJ, 16, .inr (.inl fox))), (oy, .inl (cJ, 16, .inr (.inl foy))), (ax, .inl (cJ, 32, .inr (.inl fx))), (ay, .inl (cJ, 32, .inr (.inl fy)))] := hD
  refine lv_aload_n hx hb dX1_take_10 rfl (lv_at hl 0 rfl) ?_
  refine lv_lload_n hx hb dX1_take_11 rfl (lv_at hl 1 rfl) ?_
  refine lv_lload_n hx hb dX1_take_12 rfl (lv_at hl 2 rfl) ?_
  refine kpVi (q0 := 0) (ci := 1) (As := [.long x, .long y]) (rest := []) (WC := [(h0, .inr (1, [.int (nI (pn + 1)), .ref ox, .ref oy, .int (nI on), .ref ax, .ref ay, .int (nI n)])), (ax, .inl (cJ, 32, .inr (.inl fx))), (ay, .inl (cJ, 32, .inr (.inl fy)))]) (tyC := [(cJ, .long)]) ⟨hx, hb, hml, hown, hts⟩ (tX1_holds l dC dI cJ h0 ox oy ax ay (pn + 1) on n fx fy x y (by omega)) (cwV 2 hts gX1_take_X1_holds rfl rfl rfl (by decide +kernel) ⟨Nat.le_of_ble_eq_true rfl, Nat.le_of_ble_eq_true rfl⟩) (kPick (isC := [0, 3, 4]) hP rfl) (hK.sub [0] rfl) rfl rfl rfl rfl hl.1 (Nat.le_of_ble_eq_true rfl) dX1_take_13 ⟨Nat.le_of_ble_eq_true rfl, Nat.le_of_ble_eq_true rfl⟩ ?_
  refine lv_if_eq (tgt := 21) hx hb dX1_take_16 (by decide) (fun c16 => ?_) (fun c16 => ?_)
  · replace c16 := bI_0 c16
    exact absurd (c16.symm.trans hh) (by decide)
  · replace c16 := bI_n c16
    refine lv_iconst (v := (nI 0)) hx hb dX1_take_19 (by decide) ?_
    exact kEz hx hb hr hlocks hP hK hD hS dX1_take_20 rfl

set_option maxHeartbeats 4000000 in
set_option maxRecDepth 100000 in
theorem tX1_take_f (l : Launch) (dC : Nat → ClassId) (dI : Nat → Nat → Nat) (cJ : ClassId) (h0 ox oy ax ay pn on n : Nat) (fox foy fx fy : Nat → Int64) (x y : Int64) (hn : n ≤ 32) (ho : on < 16) (hp : pn < 1000) (hh : pHolds fx fy n x y = false) : MMi l yX1_take wsX1_take { frames := 5, cells := 0, slots := 0, locals := 128 } [.ref h0, .long x, .long y] (dC, dI) [(h0, .inr (1, [.int (nI pn), .ref ox, .ref oy, .int (nI on), .ref ax, .ref ay, .int (nI n)])), (ox, .inl (cJ, 16, .inr (.inl fox))), (oy, .inl (cJ, 16, .inr (.inl foy))), (ax, .inl (cJ, 32, .inr (.inl fx))), (ay, .inl (cJ, 32, .inr (.inl fy)))] [(h0, .inr (1, [.int (nI (pn + 1)), .ref ox, .ref oy, .int (nI (on + 1)), .ref ax, .ref ay, .int (nI (if 1 < on + 1 then (pCo (pInsX on fox foy x y) (pInsY on fox foy x y) fx fy (on + 1)).2.2 - 1 else (pCo (pInsX on fox foy x y) (pInsY on fox foy x y) fx fy (on + 1)).2.2))])), (ox, .inl (cJ, 16, .inr (.inl (pInsX on fox foy x y)))), (oy, .inl (cJ, 16, .inr (.inl (pInsY on fox foy x y)))), (ax, .inl (cJ, 32, .inr (.inl ((pCo (pInsX on fox foy x y) (pInsY on fox foy x y) fx fy (on + 1)).1)))), (ay, .inl (cJ, 32, .inr (.inl ((pCo (pInsX on fox foy x y) (pInsY on fox foy x y) fx fy (on + 1)).2.1))))] [(cJ, .long)] (bI true) := by
  intro sz
  refine kOf (cc := cX1_take) (maxL := 5) (ret := (some .boolean)) (by decide) rfl (Nat.le_of_ble_eq_true rfl) ?_
  intro p e s m below meth c hx hb hr hml hts hown hlocks hB ls hl
  obtain ⟨hsz, hP, hK, hD0⟩ := hB
  subst hsz
  have hD := hD0.self (sz := s.heap.size)
  generalize hAe : va_A [(h0, .inr (1, [.int (nI pn), .ref ox, .ref oy, .int (nI on), .ref ax, .ref ay, .int (nI n)])), (ox, .inl (cJ, 16, .inr (.inl fox))), (oy, .inl (cJ, 16, .inr (.inl foy))), (ax, .inl (cJ, 32, .inr (.inl fx))), (ay, .inl (cJ, 32, .inr (.inl fy)))] s.heap.size = A at hD ⊢
  have hA : ∀ q : Nat, s.heap.size ≤ q → A q := fun q h => by rw [← hAe]; exact Or.inr h
  have hS : va_S A s.heap s.heap [] := va_S.rf
  have hl : lv_has ls 5 [(0, .ref h0), (1, .long x), (3, .long y)] := hl
  have hi1 : ∀ w ∈ u_ws RX1 TX1 7, w ∈ wsX1_take := by decide +kernel
  have f24 := hts (.fieldLink RX1 24 "SweptBoxes$Hull" "pointCount" "I") (by decide +kernel)
  refine lv_aload_n hx hb dX1_take_0 rfl (lv_at hl 0 rfl) ?_
  refine lv_dup hx hb dX1_take_1 rfl ?_
  refine va_get (D := (dC, dI)) (ci := 1) (v := .int (nI pn)) (C := RX1) (T := TX1) (N := 7) hx hb hts hi1 hown hK hP 0 rfl rfl 0 (by decide) f24 (fun _ h9 => h9) rfl dX1_take_2 ?_
  refine lv_iconst (v := (nI 1)) hx hb dX1_take_5 (by decide) ?_
  refine lv_iadd hx hb dX1_take_6 ?_
  rw [show (nI pn) + (nI 1) = (nI (pn + 1)) from nI_add pn 1]
  refine va_put (D := (dC, dI)) (ci := 1) (v := .int (nI (pn + 1))) (ty := .int) (C := RX1) (T := TX1) (N := 7) hx hb hts hi1 tyX1 tyX1_ok nmX1 hown hK hP hD hS 0 rfl rfl 0 (by decide) f24 (fun _ h9 => h9) rfl (by decide +kernel) rfl rfl (Nat.le_of_ble_eq_true rfl) dX1_take_7 (fun H locs hP hD hS => ?_)
  have hP : va_P (dC, dI) vwCl [(h0, .inr (1, [.int (nI (pn + 1)), .ref ox, .ref oy, .int (nI on), .ref ax, .ref ay, .int (nI n)])), (ox, .inl (cJ, 16, .inr (.inl fox))), (oy, .inl (cJ, 16, .inr (.inl foy))), (ax, .inl (cJ, 32, .inr (.inl fx))), (ay, .inl (cJ, 32, .inr (.inl fy)))] H := hP
  have hD : va_D A [(h0, .inr (1, [.int (nI (pn + 1)), .ref ox, .ref oy, .int (nI on), .ref ax, .ref ay, .int (nI n)])), (ox, .inl (cJ, 16, .inr (.inl fox))), (oy, .inl (cJ, 16, .inr (.inl foy))), (ax, .inl (cJ, 32, .inr (.inl fx))), (ay, .inl (cJ, 32, .inr (.inl fy)))] := hD
  refine lv_aload_n hx hb dX1_take_10 rfl (lv_at hl 0 rfl) ?_
  refine lv_lload_n hx hb dX1_take_11 rfl (lv_at hl 1 rfl) ?_
  refine lv_lload_n hx hb dX1_take_12 rfl (lv_at hl 2 rfl) ?_
  refine kpVi (q0 := 0) (ci := 1) (As := [.long x, .long y]) (rest := []) (WC := [(h0, .inr (1, [.int (nI (pn + 1)), .ref ox, .ref oy, .int (nI on), .ref ax, .ref ay, .int (nI n)])), (ax, .inl (cJ, 32, .inr (.inl fx))), (ay, .inl (cJ, 32, .inr (.inl fy)))]) (tyC := [(cJ, .long)]) ⟨hx, hb, hml, hown, hts⟩ (tX1_holds l dC dI cJ h0 ox oy ax ay (pn + 1) on n fx fy x y (by omega)) (cwV 2 hts gX1_take_X1_holds rfl rfl rfl (by decide +kernel) ⟨Nat.le_of_ble_eq_true rfl, Nat.le_of_ble_eq_true rfl⟩) (kPick (isC := [0, 3, 4]) hP rfl) (hK.sub [0] rfl) rfl rfl rfl rfl hl.1 (Nat.le_of_ble_eq_true rfl) dX1_take_13 ⟨Nat.le_of_ble_eq_true rfl, Nat.le_of_ble_eq_true rfl⟩ ?_
  refine lv_if_eq (tgt := 21) hx hb dX1_take_16 (by decide) (fun c16 => ?_) (fun c16 => ?_)
  · replace c16 := bI_0 c16
    refine lv_aload_n hx hb dX1_take_21 rfl (lv_at hl 0 rfl) ?_
    refine lv_lload_n hx hb dX1_take_22 rfl (lv_at hl 1 rfl) ?_
    refine lv_lload_n hx hb dX1_take_23 rfl (lv_at hl 2 rfl) ?_
    refine kmVv (q0 := 0) (ci := 1) (As := [.long x, .long y]) (rest := []) (WC := [(h0, .inr (1, [.int (nI (pn + 1)), .ref ox, .ref oy, .int (nI on), .ref ax, .ref ay, .int (nI n)])), (ox, .inl (cJ, 16, .inr (.inl fox))), (oy, .inl (cJ, 16, .inr (.inl foy))), (ax, .inl (cJ, 32, .inr (.inl fx))), (ay, .inl (cJ, 32, .inr (.inl fy)))]) (W2 := [(h0, .inr (1, [.int (nI (pn + 1)), .ref ox, .ref oy, .int (nI (on + 1)), .ref ax, .ref ay, .int (nI n)])), (ox, .inl (cJ, 16, .inr (.inl (pInsX on fox foy x y)))), (oy, .inl (cJ, 16, .inr (.inl (pInsY on fox foy x y)))), (ax, .inl (cJ, 32, .inr (.inl fx))), (ay, .inl (cJ, 32, .inr (.inl fy)))]) (WR := []) (WN := [(h0, .inr (1, [.int (nI (pn + 1)), .ref ox, .ref oy, .int (nI (on + 1)), .ref ax, .ref ay, .int (nI n)])), (ox, .inl (cJ, 16, .inr (.inl (pInsX on fox foy x y)))), (oy, .inl (cJ, 16, .inr (.inl (pInsY on fox foy x y)))), (ax, .inl (cJ, 32, .inr (.inl fx))), (ay, .inl (cJ, 32, .inr (.inl fy)))]) (tyC := [(cJ, .long)]) (isC := [0, 1, 2, 3, 4]) (isR := []) (isN := [0, 1, 2, 3, 4]) (its := [0]) ⟨hx, hb, hml, hown, hts⟩ (tX1_insertOuter l dC dI cJ h0 ox oy ax ay (pn + 1) on n fox foy fx fy x y (by omega)) (cwV 2 hts gX1_take_X1_insertOuter rfl rfl rfl (by decide +kernel) ⟨Nat.le_of_ble_eq_true rfl, Nat.le_of_ble_eq_true rfl⟩) hP hD hA hS hK rfl (by decide) rfl (by decide) (by decide) rfl (by decide) rfl rfl rfl rfl rfl hl.1 (Nat.le_of_ble_eq_true rfl) dX1_take_24 ⟨Nat.le_of_ble_eq_true rfl, Nat.le_of_ble_eq_true rfl⟩ (fun H locs hP hD hS => ?_)
    refine lv_aload_n hx hb dX1_take_27 rfl (lv_at hl 0 rfl) ?_
    refine kmVv (q0 := 0) (ci := 1) (As := []) (rest := []) (WC := [(h0, .inr (1, [.int (nI (pn + 1)), .ref ox, .ref oy, .int (nI (on + 1)), .ref ax, .ref ay, .int (nI n)])), (ox, .inl (cJ, 16, .inr (.inl (pInsX on fox foy x y)))), (oy, .inl (cJ, 16, .inr (.inl (pInsY on fox foy x y)))), (ax, .inl (cJ, 32, .inr (.inl fx))), (ay, .inl (cJ, 32, .inr (.inl fy)))]) (W2 := [(h0, .inr (1, [.int (nI (pn + 1)), .ref ox, .ref oy, .int (nI (on + 1)), .ref ax, .ref ay, .int (nI (if 1 < (on + 1) then (pCo (pInsX on fox foy x y) (pInsY on fox foy x y) fx fy (on + 1)).2.2 - 1 else (pCo (pInsX on fox foy x y) (pInsY on fox foy x y) fx fy (on + 1)).2.2))])), (ox, .inl (cJ, 16, .inr (.inl (pInsX on fox foy x y)))), (oy, .inl (cJ, 16, .inr (.inl (pInsY on fox foy x y)))), (ax, .inl (cJ, 32, .inr (.inl (pCo (pInsX on fox foy x y) (pInsY on fox foy x y) fx fy (on + 1)).1))), (ay, .inl (cJ, 32, .inr (.inl (pCo (pInsX on fox foy x y) (pInsY on fox foy x y) fx fy (on + 1)).2.1)))]) (WR := []) (WN := [(h0, .inr (1, [.int (nI (pn + 1)), .ref ox, .ref oy, .int (nI (on + 1)), .ref ax, .ref ay, .int (nI (if 1 < (on + 1) then (pCo (pInsX on fox foy x y) (pInsY on fox foy x y) fx fy (on + 1)).2.2 - 1 else (pCo (pInsX on fox foy x y) (pInsY on fox foy x y) fx fy (on + 1)).2.2))])), (ox, .inl (cJ, 16, .inr (.inl (pInsX on fox foy x y)))), (oy, .inl (cJ, 16, .inr (.inl (pInsY on fox foy x y)))), (ax, .inl (cJ, 32, .inr (.inl (pCo (pInsX on fox foy x y) (pInsY on fox foy x y) fx fy (on + 1)).1))), (ay, .inl (cJ, 32, .inr (.inl (pCo (pInsX on fox foy x y) (pInsY on fox foy x y) fx fy (on + 1)).2.1)))]) (tyC := [(cJ, .long)]) (isC := [0, 1, 2, 3, 4]) (isR := []) (isN := [0, 1, 2, 3, 4]) (its := [0]) ⟨hx, hb, hml, hown, hts⟩ (tX1_findCorners l dC dI cJ h0 ox oy ax ay (pn + 1) (on + 1) n (pInsX on fox foy x y) (pInsY on fox foy x y) fx fy (by omega) (by omega)) (cwV 0 hts gX1_take_X1_findCorners rfl rfl rfl (by decide +kernel) ⟨Nat.le_of_ble_eq_true rfl, Nat.le_of_ble_eq_true rfl⟩) hP hD hA hS hK rfl (by decide) rfl (by decide) (by decide) rfl (by decide) rfl rfl rfl rfl rfl hl.1 (Nat.le_of_ble_eq_true rfl) dX1_take_28 ⟨Nat.le_of_ble_eq_true rfl, Nat.le_of_ble_eq_true rfl⟩ (fun H locs hP hD hS => ?_)
    refine lv_iconst (v := (nI 1)) hx hb dX1_take_31 (by decide) ?_
    exact kEz hx hb hr hlocks hP hK hD hS dX1_take_32 rfl
  · replace c16 := bI_n c16
    exact absurd (c16.symm.trans hh) (by decide)

/-- whether all of one comes before all of the other, seen in a direction -/
def pGap (fx fy : Nat → Int64) (n : Nat) (ux uy : Nat → Int64) (un : Nat) (dx dy : Int64) : Bool := decide (pF fx fy dx dy (n - 1) < -pF ux uy (-dx) (-dy) (un - 1) ∨ pF ux uy dx dy (un - 1) < -pF fx fy (-dx) (-dy) (n - 1))
theorem pGap_iff {fx fy ux uy : Nat → Int64} {n un : Nat} {dx dy : Int64} : pGap fx fy n ux uy un dx dy = true ↔ (pF fx fy dx dy (n - 1) < -pF ux uy (-dx) (-dy) (un - 1) ∨ pF ux uy dx dy (un - 1) < -pF fx fy (-dx) (-dy) (n - 1)) := by unfold pGap; exact decide_eq_true_iff
def pGapE (fx fy : Nat → Int64) (n : Nat) (ux uy : Nat → Int64) (un : Nat) : Bool := decide (¬ ∀ k, k < n → pGap fx fy n ux uy un (-(fy (pAfter n k) - fy k)) (fx (pAfter n k) - fx k) = false)
theorem pGapE_iff {fx fy ux uy : Nat → Int64} {n un : Nat} : pGapE fx fy n ux uy un = true ↔ ¬ ∀ k, k < n → pGap fx fy n ux uy un (-(fy (pAfter n k) - fy k)) (fx (pAfter n k) - fx k) = false := by unfold pGapE; exact decide_eq_true_iff
def pApart (fx fy : Nat → Int64) (n : Nat) (ux uy : Nat → Int64) (un : Nat) : Bool := decide (n = 0 ∨ un = 0 ∨ pGap fx fy n ux uy un 1 0 = true ∨ pGap fx fy n ux uy un 0 1 = true ∨ pGapE fx fy n ux uy un = true ∨ pGapE ux uy un fx fy n = true)
theorem pApart_iff {fx fy ux uy : Nat → Int64} {n un : Nat} : pApart fx fy n ux uy un = true ↔ (n = 0 ∨ un = 0 ∨ pGap fx fy n ux uy un 1 0 = true ∨ pGap fx fy n ux uy un 0 1 = true ∨ pGapE fx fy n ux uy un = true ∨ pGapE ux uy un fx fy n = true) := by unfold pApart; exact decide_eq_true_iff
set_option maxHeartbeats 4000000 in
set_option maxRecDepth 100000 in
theorem tX1_hasGap (l : Launch) (dC : Nat → ClassId) (dI : Nat → Nat → Nat) (cJ : ClassId) (h0 ox oy ax ay pn on n : Nat) (fx fy : Nat → Int64) (uh0 uox uoy uax uay upn uon un : Nat) (ufx ufy : Nat → Int64) (dx dy : Int64) (hn : n ≤ 32) (hun : un ≤ 32) : PMi l yX1_hasGap wsX1_hasGap { frames := 2, cells := 0, slots := 0, locals := 50 } [.ref h0, .ref uh0, .long dx, .long dy] (dC, dI) [(h0, .inr (1, [.int (nI pn), .ref ox, .ref oy, .int (nI on), .ref ax, .ref ay, .int (nI n)])), (ax, .inl (cJ, 32, .inr (.inl fx))), (ay, .inl (cJ, 32, .inr (.inl fy))), (uh0, .inr (1, [.int (nI upn), .ref uox, .ref uoy, .int (nI uon), .ref uax, .ref uay, .int (nI un)])), (uax, .inl (cJ, 32, .inr (.inl ufx))), (uay, .inl (cJ, 32, .inr (.inl ufy)))] [(cJ, .long)] (bI (pGap fx fy n ufx ufy un dx dy)) := by
  refine kOf (cc := cX1_hasGap) (maxL := 6) (ret := (some .boolean)) (by decide) rfl (Nat.le_of_ble_eq_true rfl) ?_
  intro p e s m below meth c hx hb hr hml hts hown hlocks hB ls hl
  obtain ⟨hP, hK⟩ := hB
  have hl : lv_has ls 6 [(0, .ref h0), (1, .ref uh0), (2, .long dx), (4, .long dy)] := hl
  refine lv_aload_n hx hb dX1_hasGap_0 rfl (lv_at hl 0 rfl) ?_
  refine lv_lload_n hx hb dX1_hasGap_1 rfl (lv_at hl 2 rfl) ?_
  refine lv_lload hx hb dX1_hasGap_2 (lv_at hl 3 rfl) ?_
  refine kpVl (q0 := 0) (ci := 1) (As := [.long dx, .long dy]) (rest := []) (WC := [(h0, .inr (1, [.int (nI pn), .ref ox, .ref oy, .int (nI on), .ref ax, .ref ay, .int (nI n)])), (ax, .inl (cJ, 32, .inr (.inl fx))), (ay, .inl (cJ, 32, .inr (.inl fy)))]) (tyC := [(cJ, .long)]) ⟨hx, hb, hml, hown, hts⟩ (tX1_farthest l dC dI cJ h0 ox oy ax ay pn on n fx fy dx dy (by omega)) (cwV 2 hts gX1_hasGap_X1_farthest rfl rfl rfl (by decide +kernel) ⟨Nat.le_of_ble_eq_true rfl, Nat.le_of_ble_eq_true rfl⟩) (kPick (isC := [0, 1, 2]) hP rfl) (hK.sub [0] rfl) rfl rfl rfl rfl hl.1 (Nat.le_of_ble_eq_true rfl) dX1_hasGap_4 ⟨Nat.le_of_ble_eq_true rfl, Nat.le_of_ble_eq_true rfl⟩ ?_
  refine lv_aload_n hx hb dX1_hasGap_7 rfl (lv_at hl 1 rfl) ?_
  refine lv_lload_n hx hb dX1_hasGap_8 rfl (lv_at hl 2 rfl) ?_
  refine lv_lneg hx hb dX1_hasGap_9 ?_
  refine lv_lload hx hb dX1_hasGap_10 (lv_at hl 3 rfl) ?_
  refine lv_lneg hx hb dX1_hasGap_12 ?_
  refine kpVl (q0 := 0) (ci := 1) (As := [.long (-dx), .long (-dy)]) (rest := [.long (pF fx fy dx dy (n - 1))]) (WC := [(uh0, .inr (1, [.int (nI upn), .ref uox, .ref uoy, .int (nI uon), .ref uax, .ref uay, .int (nI un)])), (uax, .inl (cJ, 32, .inr (.inl ufx))), (uay, .inl (cJ, 32, .inr (.inl ufy)))]) (tyC := [(cJ, .long)]) ⟨hx, hb, hml, hown, hts⟩ (tX1_farthest l dC dI cJ uh0 uox uoy uax uay upn uon un ufx ufy (-dx) (-dy) (by omega)) (cwV 2 hts gX1_hasGap_X1_farthest rfl rfl rfl (by decide +kernel) ⟨Nat.le_of_ble_eq_true rfl, Nat.le_of_ble_eq_true rfl⟩) (kPick (isC := [3, 4, 5]) hP rfl) (hK.sub [0] rfl) rfl rfl rfl rfl hl.1 (Nat.le_of_ble_eq_true rfl) dX1_hasGap_13 ⟨Nat.le_of_ble_eq_true rfl, Nat.le_of_ble_eq_true rfl⟩ ?_
  refine lv_lneg hx hb dX1_hasGap_16 ?_
  refine W.lcmp hx hb dX1_hasGap_17 ?_
  refine lv_if_lt (tgt := 42) hx hb dX1_hasGap_18 (by decide) (fun c18 => ?_) (fun c18 => ?_)
  · rw [lg_cmp_lt] at c18
    refine lv_iconst (v := (nI 1)) hx hb dX1_hasGap_42 (by decide) ?_
    refine lv_goto (tgt := 47) hx hb dX1_hasGap_43 (by decide) ?_
    exact kRz hx hb hr hlocks dX1_hasGap_47 (kb1 (pGap_iff.mpr (Or.inl c18)))
  · rw [lg_cmp_lt, Int64.not_lt] at c18
    refine lv_aload_n hx hb dX1_hasGap_21 rfl (lv_at hl 1 rfl) ?_
    refine lv_lload_n hx hb dX1_hasGap_22 rfl (lv_at hl 2 rfl) ?_
    refine lv_lload hx hb dX1_hasGap_23 (lv_at hl 3 rfl) ?_
    refine kpVl (q0 := 0) (ci := 1) (As := [.long dx, .long dy]) (rest := []) (WC := [(uh0, .inr (1, [.int (nI upn), .ref uox, .ref uoy, .int (nI uon), .ref uax, .ref uay, .int (nI un)])), (uax, .inl (cJ, 32, .inr (.inl ufx))), (uay, .inl (cJ, 32, .inr (.inl ufy)))]) (tyC := [(cJ, .long)]) ⟨hx, hb, hml, hown, hts⟩ (tX1_farthest l dC dI cJ uh0 uox uoy uax uay upn uon un ufx ufy dx dy (by omega)) (cwV 2 hts gX1_hasGap_X1_farthest rfl rfl rfl (by decide +kernel) ⟨Nat.le_of_ble_eq_true rfl, Nat.le_of_ble_eq_true rfl⟩) (kPick (isC := [3, 4, 5]) hP rfl) (hK.sub [0] rfl) rfl rfl rfl rfl hl.1 (Nat.le_of_ble_eq_true rfl) dX1_hasGap_25 ⟨Nat.le_of_ble_eq_true rfl, Nat.le_of_ble_eq_true rfl⟩ ?_
    refine lv_aload_n hx hb dX1_hasGap_28 rfl (lv_at hl 0 rfl) ?_
    refine lv_lload_n hx hb dX1_hasGap_29 rfl (lv_at hl 2 rfl) ?_
    refine lv_lneg hx hb dX1_hasGap_30 ?_
    refine lv_lload hx hb dX1_hasGap_31 (lv_at hl 3 rfl) ?_
    refine lv_lneg hx hb dX1_hasGap_33 ?_
    refine kpVl (q0 := 0) (ci := 1) (As := [.long (-dx), .long (-dy)]) (rest := [.long (pF ufx ufy dx dy (un - 1))]) (WC := [(h0, .inr (1, [.int (nI pn), .ref ox, .ref oy, .int (nI on), .ref ax, .ref ay, .int (nI n)])), (ax, .inl (cJ, 32, .inr (.inl fx))), (ay, .inl (cJ, 32, .inr (.inl fy)))]) (tyC := [(cJ, .long)]) ⟨hx, hb, hml, hown, hts⟩ (tX1_farthest l dC dI cJ h0 ox oy ax ay pn on n fx fy (-dx) (-dy) (by omega)) (cwV 2 hts gX1_hasGap_X1_farthest rfl rfl rfl (by decide +kernel) ⟨Nat.le_of_ble_eq_true rfl, Nat.le_of_ble_eq_true rfl⟩) (kPick (isC := [0, 1, 2]) hP rfl) (hK.sub [0] rfl) rfl rfl rfl rfl hl.1 (Nat.le_of_ble_eq_true rfl) dX1_hasGap_34 ⟨Nat.le_of_ble_eq_true rfl, Nat.le_of_ble_eq_true rfl⟩ ?_
    refine lv_lneg hx hb dX1_hasGap_37 ?_
    refine W.lcmp hx hb dX1_hasGap_38 ?_
    refine lv_if_ge (tgt := 46) hx hb dX1_hasGap_39 (by decide) (fun c39 => ?_) (fun c39 => ?_)
    · rw [lg_cmp_ge] at c39
      refine lv_iconst (v := (nI 0)) hx hb dX1_hasGap_46 (by decide) ?_
      exact kRz hx hb hr hlocks dX1_hasGap_47 (kb0 (fun h => (pGap_iff.mp h).elim (fun h => absurd h (Int64.not_lt.mpr c18)) (fun h => absurd h (Int64.not_lt.mpr c39))))
    · rw [lg_cmp_ge, Int64.not_le] at c39
      refine lv_iconst (v := (nI 1)) hx hb dX1_hasGap_42 (by decide) ?_
      refine lv_goto (tgt := 47) hx hb dX1_hasGap_43 (by decide) ?_
      exact kRz hx hb hr hlocks dX1_hasGap_47 (kb1 (pGap_iff.mpr (Or.inr c39)))

set_option maxHeartbeats 4000000 in
set_option maxRecDepth 100000 in
theorem tX1_hasGapAcrossEdge (l : Launch) (dC : Nat → ClassId) (dI : Nat → Nat → Nat) (cJ : ClassId) (h0 ox oy ax ay pn on n : Nat) (fx fy : Nat → Int64) (uh0 uox uoy uax uay upn uon un : Nat) (ufx ufy : Nat → Int64) (hn : n ≤ 32) (hun : un ≤ 32) : PMi l yX1_hasGapAcrossEdge wsX1_hasGapAcrossEdge { frames := 3, cells := 0, slots := 0, locals := 75 } [.ref h0, .ref uh0] (dC, dI) [(h0, .inr (1, [.int (nI pn), .ref ox, .ref oy, .int (nI on), .ref ax, .ref ay, .int (nI n)])), (ax, .inl (cJ, 32, .inr (.inl fx))), (ay, .inl (cJ, 32, .inr (.inl fy))), (uh0, .inr (1, [.int (nI upn), .ref uox, .ref uoy, .int (nI uon), .ref uax, .ref uay, .int (nI un)])), (uax, .inl (cJ, 32, .inr (.inl ufx))), (uay, .inl (cJ, 32, .inr (.inl ufy)))] [(cJ, .long)] (bI (pGapE fx fy n ufx ufy un)) := by
  refine kOf (cc := cX1_hasGapAcrossEdge) (maxL := 7) (ret := (some .boolean)) (by decide) rfl (Nat.le_of_ble_eq_true rfl) ?_
  intro p e s m below meth c hx hb hr hml hts hown hlocks hB ls hl
  obtain ⟨hP, hK⟩ := hB
  have hl : lv_has ls 7 [(0, .ref h0), (1, .ref uh0)] := hl
  have hi1 : ∀ w ∈ u_ws RX1 TX1 7, w ∈ wsX1_hasGapAcrossEdge := by decide +kernel
  have f18 := hts (.fieldLink RX1 18 "SweptBoxes$Hull" "xs" "[J") (by decide +kernel)
  have f21 := hts (.fieldLink RX1 21 "SweptBoxes$Hull" "ys" "[J") (by decide +kernel)
  have f31 := hts (.fieldLink RX1 31 "SweptBoxes$Hull" "size" "I") (by decide +kernel)
  refine lv_iconst (v := (nI 0)) hx hb dX1_hasGapAcrossEdge_0 (by decide) ?_
  refine lv_istore_n (lv' := [(2, .int (nI 0)), (0, .ref h0), (1, .ref uh0)]) hx hb dX1_hasGapAcrossEdge_1 rfl hl (by decide) rfl (fun ls hl => ?_)
  refine kLoop (σ := Nat) (fun xz H locs ls => match xz with | k => (H = s.heap) ∧ (locs = []) ∧ (lv_has ls 7 [(0, .ref h0), (1, .ref uh0), (2, .int (nI k))]) ∧ (k ≤ n ∧ ∀ j, j < k → pGap fx fy n ufx ufy un (-(fy (pAfter n j) - fy j)) (fx (pAfter n j) - fx j) = false)) (fun xz => match xz with | k => n - k) ?_ (0) ?_
  · rintro k H locs ls hI ih2
    obtain ⟨hHe, hLe, hl, hi2_⟩ := hI
    subst hHe
    subst hLe
    obtain ⟨hk, hall⟩ := hi2_
    refine lv_iload_n hx hb dX1_hasGapAcrossEdge_2 rfl (lv_at hl 2 rfl) ?_
    refine lv_aload_n hx hb dX1_hasGapAcrossEdge_3 rfl (lv_at hl 0 rfl) ?_
    refine va_get (D := (dC, dI)) (ci := 1) (v := .int (nI n)) (C := RX1) (T := TX1) (N := 7) hx hb hts hi1 hown hK hP 0 rfl rfl 6 (by decide) f31 (fun _ h9 => h9) rfl dX1_hasGapAcrossEdge_4 ?_
    refine lv_icmp_ge (tgt := 67) hx hb dX1_hasGapAcrossEdge_7 (by decide) (fun c7 => ?_) (fun c7 => ?_)
    · rw [nI_leI (by omega) (by omega)] at c7
      refine lv_iconst (v := (nI 0)) hx hb dX1_hasGapAcrossEdge_67 (by decide) ?_
      exact kRz hx hb hr hlocks dX1_hasGapAcrossEdge_68 (kb0 (fun h => pGapE_iff.mp h (fun j hj => hall j (by omega))))
    · rw [nI_leI (by omega) (by omega), Nat.not_le] at c7
      have hpa : pAfter n k < n := pAfter_lt c7
      refine lv_aload_n hx hb dX1_hasGapAcrossEdge_10 rfl (lv_at hl 0 rfl) ?_
      refine va_get (D := (dC, dI)) (ci := 1) (v := .ref ax) (C := RX1) (T := TX1) (N := 7) hx hb hts hi1 hown hK hP 0 rfl rfl 4 (by decide) f18 (fun _ h9 => h9) rfl dX1_hasGapAcrossEdge_11 ?_
      refine lv_aload_n hx hb dX1_hasGapAcrossEdge_14 rfl (lv_at hl 0 rfl) ?_
      refine lv_iload_n hx hb dX1_hasGapAcrossEdge_15 rfl (lv_at hl 2 rfl) ?_
      refine kpVi (q0 := 0) (ci := 1) (As := [.int (nI k)]) (rest := [.ref ax]) (WC := [(h0, .inr (1, [.int (nI pn), .ref ox, .ref oy, .int (nI on), .ref ax, .ref ay, .int (nI n)])), (ax, .inl (cJ, 32, .inr (.inl fx))), (ay, .inl (cJ, 32, .inr (.inl fy)))]) (tyC := [(cJ, .long)]) ⟨hx, hb, hml, hown, hts⟩ (tX1_after l dC dI cJ h0 ox oy ax ay pn on n fx fy k (by omega) (by omega)) (cwV 1 hts gX1_hasGapAcrossEdge_X1_after rfl rfl rfl (by decide +kernel) ⟨Nat.le_of_ble_eq_true rfl, Nat.le_of_ble_eq_true rfl⟩) (kPick (isC := [0, 1, 2]) hP rfl) (hK.sub [0] rfl) rfl rfl rfl rfl hl.1 (Nat.le_of_ble_eq_true rfl) dX1_hasGapAcrossEdge_16 ⟨Nat.le_of_ble_eq_true rfl, Nat.le_of_ble_eq_true rfl⟩ ?_
      refine va_lald hx hb hK hP 1 0 rfl rfl (vp_in_nI (show (pAfter n k) < 32 by omega) (by omega)) dX1_hasGapAcrossEdge_19 ?_
      rw [show (nI (pAfter n k)).toNatClampNeg = (pAfter n k) from nI_clamp (show (pAfter n k) < 2 ^ 31 by omega)]
      refine lv_aload_n hx hb dX1_hasGapAcrossEdge_20 rfl (lv_at hl 0 rfl) ?_
      refine va_get (D := (dC, dI)) (ci := 1) (v := .ref ax) (C := RX1) (T := TX1) (N := 7) hx hb hts hi1 hown hK hP 0 rfl rfl 4 (by decide) f18 (fun _ h9 => h9) rfl dX1_hasGapAcrossEdge_21 ?_
      refine lv_iload_n hx hb dX1_hasGapAcrossEdge_24 rfl (lv_at hl 2 rfl) ?_
      refine va_lald hx hb hK hP 1 0 rfl rfl (vp_in_nI (show k < 32 by omega) (by omega)) dX1_hasGapAcrossEdge_25 ?_
      rw [show (nI k).toNatClampNeg = k from nI_clamp (show k < 2 ^ 31 by omega)]
      refine lv_lsub hx hb dX1_hasGapAcrossEdge_26 ?_
      refine lv_lstore_n (lv' := [(3, .long ((fx ((pAfter n k))) - (fx k))), (0, .ref h0), (1, .ref uh0), (2, .int (nI k))]) hx hb dX1_hasGapAcrossEdge_27 rfl hl (by decide) rfl (fun ls hl => ?_)
      refine lv_aload_n hx hb dX1_hasGapAcrossEdge_28 rfl (lv_at hl 1 rfl) ?_
      refine va_get (D := (dC, dI)) (ci := 1) (v := .ref ay) (C := RX1) (T := TX1) (N := 7) hx hb hts hi1 hown hK hP 0 rfl rfl 5 (by decide) f21 (fun _ h9 => h9) rfl dX1_hasGapAcrossEdge_29 ?_
      refine lv_aload_n hx hb dX1_hasGapAcrossEdge_32 rfl (lv_at hl 1 rfl) ?_
      refine lv_iload_n hx hb dX1_hasGapAcrossEdge_33 rfl (lv_at hl 3 rfl) ?_
      refine kpVi (q0 := 0) (ci := 1) (As := [.int (nI k)]) (rest := [.ref ay]) (WC := [(h0, .inr (1, [.int (nI pn), .ref ox, .ref oy, .int (nI on), .ref ax, .ref ay, .int (nI n)])), (ax, .inl (cJ, 32, .inr (.inl fx))), (ay, .inl (cJ, 32, .inr (.inl fy)))]) (tyC := [(cJ, .long)]) ⟨hx, hb, hml, hown, hts⟩ (tX1_after l dC dI cJ h0 ox oy ax ay pn on n fx fy k (by omega) (by omega)) (cwV 1 hts gX1_hasGapAcrossEdge_X1_after rfl rfl rfl (by decide +kernel) ⟨Nat.le_of_ble_eq_true rfl, Nat.le_of_ble_eq_true rfl⟩) (kPick (isC := [0, 1, 2]) hP rfl) (hK.sub [0] rfl) rfl rfl rfl rfl hl.1 (Nat.le_of_ble_eq_true rfl) dX1_hasGapAcrossEdge_34 ⟨Nat.le_of_ble_eq_true rfl, Nat.le_of_ble_eq_true rfl⟩ ?_
      refine va_lald hx hb hK hP 2 0 rfl rfl (vp_in_nI (show (pAfter n k) < 32 by omega) (by omega)) dX1_hasGapAcrossEdge_37 ?_
      rw [show (nI (pAfter n k)).toNatClampNeg = (pAfter n k) from nI_clamp (show (pAfter n k) < 2 ^ 31 by omega)]
      refine lv_aload_n hx hb dX1_hasGapAcrossEdge_38 rfl (lv_at hl 1 rfl) ?_
      refine va_get (D := (dC, dI)) (ci := 1) (v := .ref ay) (C := RX1) (T := TX1) (N := 7) hx hb hts hi1 hown hK hP 0 rfl rfl 5 (by decide) f21 (fun _ h9 => h9) rfl dX1_hasGapAcrossEdge_39 ?_
      refine lv_iload_n hx hb dX1_hasGapAcrossEdge_42 rfl (lv_at hl 3 rfl) ?_
      refine va_lald hx hb hK hP 2 0 rfl rfl (vp_in_nI (show k < 32 by omega) (by omega)) dX1_hasGapAcrossEdge_43 ?_
      rw [show (nI k).toNatClampNeg = k from nI_clamp (show k < 2 ^ 31 by omega)]
      refine lv_lsub hx hb dX1_hasGapAcrossEdge_44 ?_
      refine lv_lstore (lv' := [(5, .long ((fy ((pAfter n k))) - (fy k))), (3, .long ((fx ((pAfter n k))) - (fx k))), (0, .ref h0), (1, .ref uh0), (2, .int (nI k))]) hx hb dX1_hasGapAcrossEdge_45 hl (by decide) rfl (fun ls hl => ?_)
      refine lv_aload_n hx hb dX1_hasGapAcrossEdge_47 rfl (lv_at hl 2 rfl) ?_
      refine lv_aload_n hx hb dX1_hasGapAcrossEdge_48 rfl (lv_at hl 3 rfl) ?_
      refine lv_lload hx hb dX1_hasGapAcrossEdge_49 (lv_at hl 0 rfl) ?_
      refine lv_lneg hx hb dX1_hasGapAcrossEdge_51 ?_
      refine lv_lload_n hx hb dX1_hasGapAcrossEdge_52 rfl (lv_at hl 1 rfl) ?_
      refine kpVi (q0 := 0) (ci := 1) (As := [.ref uh0, .long (-((fy ((pAfter n k))) - (fy k))), .long ((fx ((pAfter n k))) - (fx k))]) (rest := []) (WC := [(h0, .inr (1, [.int (nI pn), .ref ox, .ref oy, .int (nI on), .ref ax, .ref ay, .int (nI n)])), (ax, .inl (cJ, 32, .inr (.inl fx))), (ay, .inl (cJ, 32, .inr (.inl fy))), (uh0, .inr (1, [.int (nI upn), .ref uox, .ref uoy, .int (nI uon), .ref uax, .ref uay, .int (nI un)])), (uax, .inl (cJ, 32, .inr (.inl ufx))), (uay, .inl (cJ, 32, .inr (.inl ufy)))]) (tyC := [(cJ, .long)]) ⟨hx, hb, hml, hown, hts⟩ (tX1_hasGap l dC dI cJ h0 ox oy ax ay pn on n fx fy uh0 uox uoy uax uay upn uon un ufx ufy (-((fy ((pAfter n k))) - (fy k))) ((fx ((pAfter n k))) - (fx k)) (by omega) (by omega)) (cwV 3 hts gX1_hasGapAcrossEdge_X1_hasGap rfl rfl rfl (by decide +kernel) ⟨Nat.le_of_ble_eq_true rfl, Nat.le_of_ble_eq_true rfl⟩) (kPick (isC := [0, 1, 2, 3, 4, 5]) hP rfl) (hK.sub [0] rfl) rfl rfl rfl rfl hl.1 (Nat.le_of_ble_eq_true rfl) dX1_hasGapAcrossEdge_53 ⟨Nat.le_of_ble_eq_true rfl, Nat.le_of_ble_eq_true rfl⟩ ?_
      refine lv_if_eq (tgt := 61) hx hb dX1_hasGapAcrossEdge_56 (by decide) (fun c56 => ?_) (fun c56 => ?_)
      · replace c56 := bI_0 c56
        refine lv_iinc (v := (nI (k + 1))) (lv' := [(2, .int (nI (k + 1))), (5, .long ((fy ((pAfter n k))) - (fy k))), (3, .long ((fx ((pAfter n k))) - (fx k))), (0, .ref h0), (1, .ref uh0)]) hx hb dX1_hasGapAcrossEdge_61 hl (k := 4) rfl (show (nI k) + Int32.ofInt 1 = nI (k + 1) from nI_add k 1) (by decide) rfl (fun ls hl => ?_)
        refine lv_goto (tgt := 2) hx hb dX1_hasGapAcrossEdge_64 (by decide) ?_
        exact ih2 (k + 1) _ _ _ ⟨rfl, rfl, lv_sub hl [3, 4, 0] rfl, ⟨by omega, fun j hj => by rcases Nat.lt_or_ge j k with h | h; exact hall j h; rw [show j = k by omega]; exact c56⟩⟩ (by simp only []; omega)
      · replace c56 := bI_n c56
        refine lv_iconst (v := (nI 1)) hx hb dX1_hasGapAcrossEdge_59 (by decide) ?_
        exact kRz hx hb hr hlocks dX1_hasGapAcrossEdge_60 (kb1 (pGapE_iff.mpr (fun h => absurd (c56.symm.trans (h k c7)) (by decide))))
  · exact ⟨rfl, rfl, lv_sub hl [1, 2, 0] rfl, ⟨Nat.zero_le _, fun j h => absurd h (Nat.not_lt_zero j)⟩⟩

set_option maxHeartbeats 4000000 in
set_option maxRecDepth 100000 in
theorem tX1_isApartFrom (l : Launch) (dC : Nat → ClassId) (dI : Nat → Nat → Nat) (cJ : ClassId) (h0 ox oy ax ay pn on n : Nat) (fx fy : Nat → Int64) (uh0 uox uoy uax uay upn uon un : Nat) (ufx ufy : Nat → Int64) (hn : n ≤ 32) (hun : un ≤ 32) : PMi l yX1_isApartFrom wsX1_isApartFrom { frames := 4, cells := 0, slots := 0, locals := 101 } [.ref h0, .ref uh0] (dC, dI) [(h0, .inr (1, [.int (nI pn), .ref ox, .ref oy, .int (nI on), .ref ax, .ref ay, .int (nI n)])), (ax, .inl (cJ, 32, .inr (.inl fx))), (ay, .inl (cJ, 32, .inr (.inl fy))), (uh0, .inr (1, [.int (nI upn), .ref uox, .ref uoy, .int (nI uon), .ref uax, .ref uay, .int (nI un)])), (uax, .inl (cJ, 32, .inr (.inl ufx))), (uay, .inl (cJ, 32, .inr (.inl ufy)))] [(cJ, .long)] (bI (pApart fx fy n ufx ufy un)) := by
  refine kOf (cc := cX1_isApartFrom) (maxL := 2) (ret := (some .boolean)) (by decide) rfl (Nat.le_of_ble_eq_true rfl) ?_
  intro p e s m below meth c hx hb hr hml hts hown hlocks hB ls hl
  obtain ⟨hP, hK⟩ := hB
  have hl : lv_has ls 2 [(0, .ref h0), (1, .ref uh0)] := hl
  have hi1 : ∀ w ∈ u_ws RX1 TX1 7, w ∈ wsX1_isApartFrom := by decide +kernel
  have f31 := hts (.fieldLink RX1 31 "SweptBoxes$Hull" "size" "I") (by decide +kernel)
  refine lv_aload_n hx hb dX1_isApartFrom_0 rfl (lv_at hl 0 rfl) ?_
  refine va_get (D := (dC, dI)) (ci := 1) (v := .int (nI n)) (C := RX1) (T := TX1) (N := 7) hx hb hts hi1 hown hK hP 0 rfl rfl 6 (by decide) f31 (fun _ h9 => h9) rfl dX1_isApartFrom_1 ?_
  refine lv_if_eq (tgt := 50) hx hb dX1_isApartFrom_4 (by decide) (fun c4 => ?_) (fun c4 => ?_)
  · rw [← nI_0, nI_eq (by omega) (by omega)] at c4
    refine lv_iconst (v := (nI 1)) hx hb dX1_isApartFrom_50 (by decide) ?_
    refine lv_goto (tgt := 55) hx hb dX1_isApartFrom_51 (by decide) ?_
    exact kRz hx hb hr hlocks dX1_isApartFrom_55 (kb1 (pApart_iff.mpr (Or.inl c4)))
  · rw [← nI_0, nI_eq (by omega) (by omega)] at c4
    refine lv_aload_n hx hb dX1_isApartFrom_7 rfl (lv_at hl 1 rfl) ?_
    refine va_get (D := (dC, dI)) (ci := 1) (v := .int (nI un)) (C := RX1) (T := TX1) (N := 7) hx hb hts hi1 hown hK hP 3 rfl rfl 6 (by decide) f31 (fun _ h9 => h9) rfl dX1_isApartFrom_8 ?_
    refine lv_if_eq (tgt := 50) hx hb dX1_isApartFrom_11 (by decide) (fun c11 => ?_) (fun c11 => ?_)
    · rw [← nI_0, nI_eq (by omega) (by omega)] at c11
      refine lv_iconst (v := (nI 1)) hx hb dX1_isApartFrom_50 (by decide) ?_
      refine lv_goto (tgt := 55) hx hb dX1_isApartFrom_51 (by decide) ?_
      exact kRz hx hb hr hlocks dX1_isApartFrom_55 (kb1 (pApart_iff.mpr (Or.inr (Or.inl c11))))
    · rw [← nI_0, nI_eq (by omega) (by omega)] at c11
      refine lv_aload_n hx hb dX1_isApartFrom_14 rfl (lv_at hl 0 rfl) ?_
      refine lv_aload_n hx hb dX1_isApartFrom_15 rfl (lv_at hl 1 rfl) ?_
      refine lv_lconst (v := 1) hx hb dX1_isApartFrom_16 (by decide) ?_
      refine lv_lconst (v := 0) hx hb dX1_isApartFrom_17 (by decide) ?_
      refine kpVi (q0 := 0) (ci := 1) (As := [.ref uh0, .long 1, .long 0]) (rest := []) (WC := [(h0, .inr (1, [.int (nI pn), .ref ox, .ref oy, .int (nI on), .ref ax, .ref ay, .int (nI n)])), (ax, .inl (cJ, 32, .inr (.inl fx))), (ay, .inl (cJ, 32, .inr (.inl fy))), (uh0, .inr (1, [.int (nI upn), .ref uox, .ref uoy, .int (nI uon), .ref uax, .ref uay, .int (nI un)])), (uax, .inl (cJ, 32, .inr (.inl ufx))), (uay, .inl (cJ, 32, .inr (.inl ufy)))]) (tyC := [(cJ, .long)]) ⟨hx, hb, hml, hown, hts⟩ (tX1_hasGap l dC dI cJ h0 ox oy ax ay pn on n fx fy uh0 uox uoy uax uay upn uon un ufx ufy 1 0 (by omega) (by omega)) (cwV 3 hts gX1_isApartFrom_X1_hasGap rfl rfl rfl (by decide +kernel) ⟨Nat.le_of_ble_eq_true rfl, Nat.le_of_ble_eq_true rfl⟩) (kPick (isC := [0, 1, 2, 3, 4, 5]) hP rfl) (hK.sub [0] rfl) rfl rfl rfl rfl hl.1 (Nat.le_of_ble_eq_true rfl) dX1_isApartFrom_18 ⟨Nat.le_of_ble_eq_true rfl, Nat.le_of_ble_eq_true rfl⟩ ?_
      refine lv_if_ne (tgt := 50) hx hb dX1_isApartFrom_21 (by decide) (fun c21 => ?_) (fun c21 => ?_)
      · replace c21 := bI_n c21
        refine lv_iconst (v := (nI 1)) hx hb dX1_isApartFrom_50 (by decide) ?_
        refine lv_goto (tgt := 55) hx hb dX1_isApartFrom_51 (by decide) ?_
        exact kRz hx hb hr hlocks dX1_isApartFrom_55 (kb1 (pApart_iff.mpr (Or.inr (Or.inr (Or.inl c21)))))
      · replace c21 := bI_0 c21
        refine lv_aload_n hx hb dX1_isApartFrom_24 rfl (lv_at hl 0 rfl) ?_
        refine lv_aload_n hx hb dX1_isApartFrom_25 rfl (lv_at hl 1 rfl) ?_
        refine lv_lconst (v := 0) hx hb dX1_isApartFrom_26 (by decide) ?_
        refine lv_lconst (v := 1) hx hb dX1_isApartFrom_27 (by decide) ?_
        refine kpVi (q0 := 0) (ci := 1) (As := [.ref uh0, .long 0, .long 1]) (rest := []) (WC := [(h0, .inr (1, [.int (nI pn), .ref ox, .ref oy, .int (nI on), .ref ax, .ref ay, .int (nI n)])), (ax, .inl (cJ, 32, .inr (.inl fx))), (ay, .inl (cJ, 32, .inr (.inl fy))), (uh0, .inr (1, [.int (nI upn), .ref uox, .ref uoy, .int (nI uon), .ref uax, .ref uay, .int (nI un)])), (uax, .inl (cJ, 32, .inr (.inl ufx))), (uay, .inl (cJ, 32, .inr (.inl ufy)))]) (tyC := [(cJ, .long)]) ⟨hx, hb, hml, hown, hts⟩ (tX1_hasGap l dC dI cJ h0 ox oy ax ay pn on n fx fy uh0 uox uoy uax uay upn uon un ufx ufy 0 1 (by omega) (by omega)) (cwV 3 hts gX1_isApartFrom_X1_hasGap rfl rfl rfl (by decide +kernel) ⟨Nat.le_of_ble_eq_true rfl, Nat.le_of_ble_eq_true rfl⟩) (kPick (isC := [0, 1, 2, 3, 4, 5]) hP rfl) (hK.sub [0] rfl) rfl rfl rfl rfl hl.1 (Nat.le_of_ble_eq_true rfl) dX1_isApartFrom_28 ⟨Nat.le_of_ble_eq_true rfl, Nat.le_of_ble_eq_true rfl⟩ ?_
        refine lv_if_ne (tgt := 50) hx hb dX1_isApartFrom_31 (by decide) (fun c31 => ?_) (fun c31 => ?_)
        · replace c31 := bI_n c31
          refine lv_iconst (v := (nI 1)) hx hb dX1_isApartFrom_50 (by decide) ?_
          refine lv_goto (tgt := 55) hx hb dX1_isApartFrom_51 (by decide) ?_
          exact kRz hx hb hr hlocks dX1_isApartFrom_55 (kb1 (pApart_iff.mpr (Or.inr (Or.inr (Or.inr (Or.inl c31))))))
        · replace c31 := bI_0 c31
          refine lv_aload_n hx hb dX1_isApartFrom_34 rfl (lv_at hl 0 rfl) ?_
          refine lv_aload_n hx hb dX1_isApartFrom_35 rfl (lv_at hl 1 rfl) ?_
          refine kpVi (q0 := 0) (ci := 1) (As := [.ref uh0]) (rest := []) (WC := [(h0, .inr (1, [.int (nI pn), .ref ox, .ref oy, .int (nI on), .ref ax, .ref ay, .int (nI n)])), (ax, .inl (cJ, 32, .inr (.inl fx))), (ay, .inl (cJ, 32, .inr (.inl fy))), (uh0, .inr (1, [.int (nI upn), .ref uox, .ref uoy, .int (nI uon), .ref uax, .ref uay, .int (nI un)])), (uax, .inl (cJ, 32, .inr (.inl ufx))), (uay, .inl (cJ, 32, .inr (.inl ufy)))]) (tyC := [(cJ, .long)]) ⟨hx, hb, hml, hown, hts⟩ (tX1_hasGapAcrossEdge l dC dI cJ h0 ox oy ax ay pn on n fx fy uh0 uox uoy uax uay upn uon un ufx ufy (by omega) (by omega)) (cwV 1 hts gX1_isApartFrom_X1_hasGapAcrossEdge rfl rfl rfl (by decide +kernel) ⟨Nat.le_of_ble_eq_true rfl, Nat.le_of_ble_eq_true rfl⟩) (kPick (isC := [0, 1, 2, 3, 4, 5]) hP rfl) (hK.sub [0] rfl) rfl rfl rfl rfl hl.1 (Nat.le_of_ble_eq_true rfl) dX1_isApartFrom_36 ⟨Nat.le_of_ble_eq_true rfl, Nat.le_of_ble_eq_true rfl⟩ ?_
          refine lv_if_ne (tgt := 50) hx hb dX1_isApartFrom_39 (by decide) (fun c39 => ?_) (fun c39 => ?_)
          · replace c39 := bI_n c39
            refine lv_iconst (v := (nI 1)) hx hb dX1_isApartFrom_50 (by decide) ?_
            refine lv_goto (tgt := 55) hx hb dX1_isApartFrom_51 (by decide) ?_
            exact kRz hx hb hr hlocks dX1_isApartFrom_55 (kb1 (pApart_iff.mpr (Or.inr (Or.inr (Or.inr (Or.inr (Or.inl c39)))))))
          · replace c39 := bI_0 c39
            refine lv_aload_n hx hb dX1_isApartFrom_42 rfl (lv_at hl 1 rfl) ?_
            refine lv_aload_n hx hb dX1_isApartFrom_43 rfl (lv_at hl 0 rfl) ?_
            refine kpVi (q0 := 0) (ci := 1) (As := [.ref h0]) (rest := []) (WC := [(uh0, .inr (1, [.int (nI upn), .ref uox, .ref uoy, .int (nI uon), .ref uax, .ref uay, .int (nI un)])), (uax, .inl (cJ, 32, .inr (.inl ufx))), (uay, .inl (cJ, 32, .inr (.inl ufy))), (h0, .inr (1, [.int (nI pn), .ref ox, .ref oy, .int (nI on), .ref ax, .ref ay, .int (nI n)])), (ax, .inl (cJ, 32, .inr (.inl fx))), (ay, .inl (cJ, 32, .inr (.inl fy)))]) (tyC := [(cJ, .long)]) ⟨hx, hb, hml, hown, hts⟩ (tX1_hasGapAcrossEdge l dC dI cJ uh0 uox uoy uax uay upn uon un ufx ufy h0 ox oy ax ay pn on n fx fy (by omega) (by omega)) (cwV 1 hts gX1_isApartFrom_X1_hasGapAcrossEdge rfl rfl rfl (by decide +kernel) ⟨Nat.le_of_ble_eq_true rfl, Nat.le_of_ble_eq_true rfl⟩) (kPick (isC := [3, 4, 5, 0, 1, 2]) hP rfl) (hK.sub [0] rfl) rfl rfl rfl rfl hl.1 (Nat.le_of_ble_eq_true rfl) dX1_isApartFrom_44 ⟨Nat.le_of_ble_eq_true rfl, Nat.le_of_ble_eq_true rfl⟩ ?_
            refine lv_if_eq (tgt := 54) hx hb dX1_isApartFrom_47 (by decide) (fun c47 => ?_) (fun c47 => ?_)
            · replace c47 := bI_0 c47
              refine lv_iconst (v := (nI 0)) hx hb dX1_isApartFrom_54 (by decide) ?_
              exact kRz hx hb hr hlocks dX1_isApartFrom_55 (kb0 (fun h => (pApart_iff.mp h).elim c4 (fun h => h.elim c11 (fun h => h.elim (fun h => absurd (h.symm.trans c21) (by decide)) (fun h => h.elim (fun h => absurd (h.symm.trans c31) (by decide)) (fun h => h.elim (fun h => absurd (h.symm.trans c39) (by decide)) (fun h => absurd (h.symm.trans c47) (by decide))))))))
            · replace c47 := bI_n c47
              refine lv_iconst (v := (nI 1)) hx hb dX1_isApartFrom_50 (by decide) ?_
              refine lv_goto (tgt := 55) hx hb dX1_isApartFrom_51 (by decide) ?_
              exact kRz hx hb hr hlocks dX1_isApartFrom_55 (kb1 (pApart_iff.mpr (Or.inr (Or.inr (Or.inr (Or.inr (Or.inr c47)))))))
