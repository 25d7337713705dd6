theorem xbad_59 : ∀ w ∈ (vx_atS RX4 59 "java/lang/IllegalStateException" tNm).filter (fun w => !goodWord w), w ∈ tBad := by decide +kernel
theorem xgood_59 : ∀ w ∈ Cond.classLink RX4 55 "java/lang/IllegalStateException" :: Cond.initialized "java/lang/IllegalStateException" :: vx_atS RX4 59 "java/lang/IllegalStateException" tNm, vx_ot w = true := by decide +kernel
theorem xbad_183 : ∀ w ∈ (vx_atS RX4 183 "java/lang/IndexOutOfBoundsException" tNm).filter (fun w => !goodWord w), w ∈ tBad := by decide +kernel
theorem xgood_183 : ∀ w ∈ Cond.classLink RX4 179 "java/lang/IndexOutOfBoundsException" :: Cond.initialized "java/lang/IndexOutOfBoundsException" :: vx_atS RX4 183 "java/lang/IndexOutOfBoundsException" tNm, vx_ot w = true := by decide +kernel
theorem xbad_105 : ∀ w ∈ (vx_atS RX4 105 "java/lang/IllegalArgumentException" tNm).filter (fun w => !goodWord w), w ∈ tBad := by decide +kernel
theorem xgood_105 : ∀ w ∈ Cond.classLink RX4 101 "java/lang/IllegalArgumentException" :: Cond.initialized "java/lang/IllegalArgumentException" :: vx_atS RX4 105 "java/lang/IllegalArgumentException" tNm, vx_ot w = true := by decide +kernel
theorem xin_X4_needIndex_183 : ∀ w ∈ (vx_atS RX4 183 "java/lang/IndexOutOfBoundsException" tNm).filter goodWord, w ∈ wsX4_needIndex := by decide +kernel
theorem xin_X4_needInRange_105 : ∀ w ∈ (vx_atS RX4 105 "java/lang/IllegalArgumentException" tNm).filter goodWord, w ∈ wsX4_needInRange := by decide +kernel
set_option maxHeartbeats 4000000 in
set_option maxRecDepth 100000 in
theorem tX4_needIndex_e (l : Launch) (dC : Nat → ClassId) (dI : Nat → Nat → Nat) (a : Int32) (b : Nat) (hbad : ¬ (0 ≤ a ∧ a < nI b)) (hb_ : b < 1000) : TMv l yX4_needIndex wsX4_needIndex { frames := 6, cells := 1, slots := 6, locals := 90 } [.int a, .int (nI b)] (dC, dI) [] (fun (u : Unit) => []) [] "java/lang/IndexOutOfBoundsException" := by
  intro hlt sz
  refine kOfX (cc := cX4_needIndex) (maxL := 2) (ret := none) (by decide) rfl (Nat.le_of_ble_eq_true rfl) ?_
  intro p e s m below meth c hx hb hr hml hts hown hlocks htab hB ls hl
  obtain ⟨⟨hsz, hP, hK, hD0⟩, hT⟩ := hB
  subst hsz
  have hD := hD0.self (sz := s.heap.size)
  generalize hAe : va_A [] s.heap.size = A at hD hT ⊢
  have hA : ∀ q : Nat, s.heap.size ≤ q → A q := fun q h => by rw [← hAe]; exact Or.inr h
  have hS : va_S A s.heap s.heap [] := va_S.rf
  have hl : lv_has ls 2 [(0, .int a), (1, .int (nI b))] := hl
  refine lv_iload_n hx hb dX4_needIndex_0 rfl (lv_at hl 0 rfl) ?_
  refine lv_if_lt (tgt := 9) hx hb dX4_needIndex_1 (by decide) (fun c1 => ?_) (fun c1 => ?_)
  · skip
    exact kThrow (u := ()) (is := 208) (rest := []) hx hb hlt hown (by decide +kernel) (by decide +kernel) (by decide +kernel) (hts (.classLink RX4 179 "java/lang/IndexOutOfBoundsException") (by decide +kernel)) (hts (.initialized "java/lang/IndexOutOfBoundsException") (by decide +kernel)) (List.mem_of_getElem? (i := 8) rfl) (fun w h => hts w (xin_X4_needIndex_183 w h)) xbad_183 xgood_183 hT hS (hl.1.trans hml.symm) dX4_needIndex_9 dX4_needIndex_12 dX4_needIndex_13 dX4_needIndex_15 dX4_needIndex_18 htab (Nat.lt_of_lt_of_le (by decide) (Nat.le_of_ble_eq_true rfl : 6 ≤ _)) (Nat.le_of_ble_eq_true rfl) (Nat.le_of_ble_eq_true rfl) (Nat.le_of_ble_eq_true rfl) hlocks hP hK hD
  · skip
    refine lv_iload_n hx hb dX4_needIndex_4 rfl (lv_at hl 0 rfl) ?_
    refine lv_iload_n hx hb dX4_needIndex_5 rfl (lv_at hl 1 rfl) ?_
    refine lv_icmp_lt (tgt := 19) hx hb dX4_needIndex_6 (by decide) (fun c6 => ?_) (fun c6 => ?_)
    · skip
      exact absurd ⟨Int32.not_lt.mp c1, c6⟩ hbad
    · skip
      exact kThrow (u := ()) (is := 208) (rest := []) hx hb hlt hown (by decide +kernel) (by decide +kernel) (by decide +kernel) (hts (.classLink RX4 179 "java/lang/IndexOutOfBoundsException") (by decide +kernel)) (hts (.initialized "java/lang/IndexOutOfBoundsException") (by decide +kernel)) (List.mem_of_getElem? (i := 8) rfl) (fun w h => hts w (xin_X4_needIndex_183 w h)) xbad_183 xgood_183 hT hS (hl.1.trans hml.symm) dX4_needIndex_9 dX4_needIndex_12 dX4_needIndex_13 dX4_needIndex_15 dX4_needIndex_18 htab (Nat.lt_of_lt_of_le (by decide) (Nat.le_of_ble_eq_true rfl : 6 ≤ _)) (Nat.le_of_ble_eq_true rfl) (Nat.le_of_ble_eq_true rfl) (Nat.le_of_ble_eq_true rfl) hlocks hP hK hD

set_option maxHeartbeats 4000000 in
set_option maxRecDepth 100000 in
theorem tX4_needIndex_r (l : Launch) (dC : Nat → ClassId) (dI : Nat → Nat → Nat) (a : Int32) (b : Nat) (hok : 0 ≤ a ∧ a < nI b) (hb_ : b < 1000) : MMv l yX4_needIndex wsX4_needIndex { frames := 0, cells := 0, slots := 0, locals := 0 } [.int a, .int (nI b)] (dC, dI) [] [] [] := by
  intro sz
  refine kOf (cc := cX4_needIndex) (maxL := 2) (ret := none) (by decide) rfl (Nat.le_of_ble_eq_true rfl) ?_
  intro p e s m below meth c hx hb hr hml hts hown hlocks hB ls hl
  obtain ⟨hsz, hP, hK, hD0⟩ := hB
  subst hsz
  have hD := hD0.self (sz := s.heap.size)
  generalize hAe : va_A [] s.heap.size = A at hD ⊢
  have hA : ∀ q : Nat, s.heap.size ≤ q → A q := fun q h => by rw [← hAe]; exact Or.inr h
  have hS : va_S A s.heap s.heap [] := va_S.rf
  have hl : lv_has ls 2 [(0, .int a), (1, .int (nI b))] := hl
  refine lv_iload_n hx hb dX4_needIndex_0 rfl (lv_at hl 0 rfl) ?_
  refine lv_if_lt (tgt := 9) hx hb dX4_needIndex_1 (by decide) (fun c1 => ?_) (fun c1 => ?_)
  · skip
    exact absurd hok.1 (Int32.not_le.mpr c1)
  · skip
    refine lv_iload_n hx hb dX4_needIndex_4 rfl (lv_at hl 0 rfl) ?_
    refine lv_iload_n hx hb dX4_needIndex_5 rfl (lv_at hl 1 rfl) ?_
    refine lv_icmp_lt (tgt := 19) hx hb dX4_needIndex_6 (by decide) (fun c6 => ?_) (fun c6 => ?_)
    · skip
      exact kEv hx hb hr hlocks hP hK hD hS dX4_needIndex_19
    · skip
      exact absurd hok.2 c6

set_option maxHeartbeats 4000000 in
set_option maxRecDepth 100000 in
theorem tX4_needInRange_e (l : Launch) (dC : Nat → ClassId) (dI : Nat → Nat → Nat) (x y : Int64) (hbad : ¬ ((-10000 ≤ x ∧ x ≤ 10000) ∧ (-10000 ≤ y ∧ y ≤ 10000))) : TMv l yX4_needInRange wsX4_needInRange { frames := 6, cells := 1, slots := 6, locals := 90 } [.long x, .long y] (dC, dI) [] (fun (u : Unit) => []) [] "java/lang/IllegalArgumentException" := by
  intro hlt sz
  refine kOfX (cc := cX4_needInRange) (maxL := 4) (ret := none) (by decide) rfl (Nat.le_of_ble_eq_true rfl) ?_
  intro p e s m below meth c hx hb hr hml hts hown hlocks htab hB ls hl
  obtain ⟨⟨hsz, hP, hK, hD0⟩, hT⟩ := hB
  subst hsz
  have hD := hD0.self (sz := s.heap.size)
  generalize hAe : va_A [] s.heap.size = A at hD hT ⊢
  have hA : ∀ q : Nat, s.heap.size ≤ q → A q := fun q h => by rw [← hAe]; exact Or.inr h
  have hS : va_S A s.heap s.heap [] := va_S.rf
  have hl : lv_has ls 4 [(0, .long x), (2, .long y)] := hl
  refine lv_lload_n hx hb dX4_needInRange_0 rfl (lv_at hl 0 rfl) ?_
  refine lv_ldc2 hx hb hown (hts (.constantLong RX4 210 (-10000)) (by decide +kernel)) dX4_needInRange_1 ?_
  refine W.lcmp hx hb dX4_needInRange_4 ?_
  refine lv_if_lt (tgt := 32) hx hb dX4_needInRange_5 (by decide) (fun c5 => ?_) (fun c5 => ?_)
  · rw [lg_cmp_lt] at c5
    exact kThrow (u := ()) (is := 214) (rest := []) hx hb hlt hown (by decide +kernel) (by decide +kernel) (by decide +kernel) (hts (.classLink RX4 101 "java/lang/IllegalArgumentException") (by decide +kernel)) (hts (.initialized "java/lang/IllegalArgumentException") (by decide +kernel)) (List.mem_of_getElem? (i := 9) rfl) (fun w h => hts w (xin_X4_needInRange_105 w h)) xbad_105 xgood_105 hT hS (hl.1.trans hml.symm) dX4_needInRange_32 dX4_needInRange_35 dX4_needInRange_36 dX4_needInRange_38 dX4_needInRange_41 htab (Nat.lt_of_lt_of_le (by decide) (Nat.le_of_ble_eq_true rfl : 6 ≤ _)) (Nat.le_of_ble_eq_true rfl) (Nat.le_of_ble_eq_true rfl) (Nat.le_of_ble_eq_true rfl) hlocks hP hK hD
  · rw [lg_cmp_lt, Int64.not_lt] at c5
    refine lv_lload_n hx hb dX4_needInRange_8 rfl (lv_at hl 0 rfl) ?_
    refine lv_ldc2 hx hb hown (hts (.constantLong RX4 212 (10000)) (by decide +kernel)) dX4_needInRange_9 ?_
    refine W.lcmp hx hb dX4_needInRange_12 ?_
    refine lv_if_gt (tgt := 32) hx hb dX4_needInRange_13 (by decide) (fun c13 => ?_) (fun c13 => ?_)
    · rw [lg_cmp_gt] at c13
      exact kThrow (u := ()) (is := 214) (rest := []) hx hb hlt hown (by decide +kernel) (by decide +kernel) (by decide +kernel) (hts (.classLink RX4 101 "java/lang/IllegalArgumentException") (by decide +kernel)) (hts (.initialized "java/lang/IllegalArgumentException") (by decide +kernel)) (List.mem_of_getElem? (i := 9) rfl) (fun w h => hts w (xin_X4_needInRange_105 w h)) xbad_105 xgood_105 hT hS (hl.1.trans hml.symm) dX4_needInRange_32 dX4_needInRange_35 dX4_needInRange_36 dX4_needInRange_38 dX4_needInRange_41 htab (Nat.lt_of_lt_of_le (by decide) (Nat.le_of_ble_eq_true rfl : 6 ≤ _)) (Nat.le_of_ble_eq_true rfl) (Nat.le_of_ble_eq_true rfl) (Nat.le_of_ble_eq_true rfl) hlocks hP hK hD
    · rw [lg_cmp_gt, Int64.not_lt] at c13
      refine lv_lload_n hx hb dX4_needInRange_16 rfl (lv_at hl 1 rfl) ?_
      refine lv_ldc2 hx hb hown (hts (.constantLong RX4 210 (-10000)) (by decide +kernel)) dX4_needInRange_17 ?_
      refine W.lcmp hx hb dX4_needInRange_20 ?_
      refine lv_if_lt (tgt := 32) hx hb dX4_needInRange_21 (by decide) (fun c21 => ?_) (fun c21 => ?_)
      · rw [lg_cmp_lt] at c21
        exact kThrow (u := ()) (is := 214) (rest := []) hx hb hlt hown (by decide +kernel) (by decide +kernel) (by decide +kernel) (hts (.classLink RX4 101 "java/lang/IllegalArgumentException") (by decide +kernel)) (hts (.initialized "java/lang/IllegalArgumentException") (by decide +kernel)) (List.mem_of_getElem? (i := 9) rfl) (fun w h => hts w (xin_X4_needInRange_105 w h)) xbad_105 xgood_105 hT hS (hl.1.trans hml.symm) dX4_needInRange_32 dX4_needInRange_35 dX4_needInRange_36 dX4_needInRange_38 dX4_needInRange_41 htab (Nat.lt_of_lt_of_le (by decide) (Nat.le_of_ble_eq_true rfl : 6 ≤ _)) (Nat.le_of_ble_eq_true rfl) (Nat.le_of_ble_eq_true rfl) (Nat.le_of_ble_eq_true rfl) hlocks hP hK hD
      · rw [lg_cmp_lt, Int64.not_lt] at c21
        refine lv_lload_n hx hb dX4_needInRange_24 rfl (lv_at hl 1 rfl) ?_
        refine lv_ldc2 hx hb hown (hts (.constantLong RX4 212 (10000)) (by decide +kernel)) dX4_needInRange_25 ?_
        refine W.lcmp hx hb dX4_needInRange_28 ?_
        refine lv_if_le (tgt := 42) hx hb dX4_needInRange_29 (by decide) (fun c29 => ?_) (fun c29 => ?_)
        · rw [lg_cmp_le] at c29
          exact absurd ⟨⟨c5, c13⟩, ⟨c21, c29⟩⟩ hbad
        · rw [lg_cmp_le, Int64.not_le] at c29
          exact kThrow (u := ()) (is := 214) (rest := []) hx hb hlt hown (by decide +kernel) (by decide +kernel) (by decide +kernel) (hts (.classLink RX4 101 "java/lang/IllegalArgumentException") (by decide +kernel)) (hts (.initialized "java/lang/IllegalArgumentException") (by decide +kernel)) (List.mem_of_getElem? (i := 9) rfl) (fun w h => hts w (xin_X4_needInRange_105 w h)) xbad_105 xgood_105 hT hS (hl.1.trans hml.symm) dX4_needInRange_32 dX4_needInRange_35 dX4_needInRange_36 dX4_needInRange_38 dX4_needInRange_41 htab (Nat.lt_of_lt_of_le (by decide) (Nat.le_of_ble_eq_true rfl : 6 ≤ _)) (Nat.le_of_ble_eq_true rfl) (Nat.le_of_ble_eq_true rfl) (Nat.le_of_ble_eq_true rfl) hlocks hP hK hD

set_option maxHeartbeats 4000000 in
set_option maxRecDepth 100000 in
theorem tX4_needMeeting_e (l : Launch) (dC : Nat → ClassId) (dI : Nat → Nat → Nat) (ob ahl nh abl nb asr pb atr nt tb mt : Nat) (a b pt : Int32) (hbad : ¬ ((0 ≤ a ∧ a < nI nb) ∧ (0 ≤ b ∧ b < nI nb) ∧ (0 ≤ pt ∧ pt < nI 2))) (hn : nb ≤ 16) : TMv l yX4_needMeeting wsX4_needMeeting { frames := 7, cells := 1, slots := 6, locals := 111 } [.ref ob, .int a, .int b, .int pt] (dC, dI) [(ob, .inr (4, [.ref ahl, .int (nI nh), .ref abl, .int (nI nb), .ref asr, .ref pb, .ref atr, .int (nI nt), .ref tb, .ref mt]))] (fun (u : Unit) => [(ob, .inr (4, [.ref ahl, .int (nI nh), .ref abl, .int (nI nb), .ref asr, .ref pb, .ref atr, .int (nI nt), .ref tb, .ref mt]))]) [] "java/lang/IndexOutOfBoundsException" := by
  intro hlt sz
  refine kOfX (cc := cX4_needMeeting) (maxL := 4) (ret := none) (by decide) rfl (Nat.le_of_ble_eq_true rfl) ?_
  intro p e s m below meth c hx hb hr hml hts hown hlocks htab hB ls hl
  obtain ⟨⟨hsz, hP, hK, hD0⟩, hT⟩ := hB
  subst hsz
  have hD := hD0.self (sz := s.heap.size)
  generalize hAe : va_A [(ob, .inr (4, [.ref ahl, .int (nI nh), .ref abl, .int (nI nb), .ref asr, .ref pb, .ref atr, .int (nI nt), .ref tb, .ref mt]))] s.heap.size = A at hD hT ⊢
  have hA : ∀ q : Nat, s.heap.size ≤ q → A q := fun q h => by rw [← hAe]; exact Or.inr h
  have hS : va_S A s.heap s.heap [] := va_S.rf
  have hl : lv_has ls 4 [(0, .ref ob), (1, .int a), (2, .int b), (3, .int pt)] := hl
  have hi4 : ∀ w ∈ u_ws RX4 TX4 10, w ∈ wsX4_needMeeting := by decide +kernel
  have f96 := hts (.fieldLink RX4 96 "SweptBoxes" "blockCount" "I") (by decide +kernel)
  refine lv_iload_n hx hb dX4_needMeeting_0 rfl (lv_at hl 1 rfl) ?_
  refine lv_aload_n hx hb dX4_needMeeting_1 rfl (lv_at hl 0 rfl) ?_
  refine va_get (D := (dC, dI)) (ci := 4) (v := .int (nI nb)) (C := RX4) (T := TX4) (N := 10) hx hb hts hi4 hown hK hP 0 rfl rfl 3 (by decide) f96 (fun _ h9 => h9) rfl dX4_needMeeting_2 ?_
  by_cases hk5 : 0 ≤ a ∧ a < nI nb
  · skip
    refine kmSv (As := [.int a, .int (nI nb)]) (rest := []) (WC := []) (W2 := []) (WR := [(ob, .inr (4, [.ref ahl, .int (nI nh), .ref abl, .int (nI nb), .ref asr, .ref pb, .ref atr, .int (nI nt), .ref tb, .ref mt]))]) (WN := [(ob, .inr (4, [.ref ahl, .int (nI nh), .ref abl, .int (nI nb), .ref asr, .ref pb, .ref atr, .int (nI nt), .ref tb, .ref mt]))]) (tyC := []) (isC := []) (isR := [0]) (isN := [0]) (its := []) ⟨hx, hb, hml, hown, hts⟩ (tX4_needIndex_r l dC dI a nb hk5 (by omega)) (va_cwS 2 hts gX4_needMeeting_X4_needIndex rfl rfl rfl (by decide +kernel) ⟨Nat.le_of_ble_eq_true rfl, Nat.le_of_ble_eq_true rfl⟩) hP hD hA hS hK rfl (by decide) rfl (by decide) (by decide) rfl (by decide) rfl rfl rfl hl.1 (Nat.le_of_ble_eq_true rfl) dX4_needMeeting_5 ⟨Nat.le_of_ble_eq_true rfl, Nat.le_of_ble_eq_true rfl⟩ (fun H locs hP hD hS => ?_)
    refine lv_iload_n hx hb dX4_needMeeting_8 rfl (lv_at hl 2 rfl) ?_
    refine lv_aload_n hx hb dX4_needMeeting_9 rfl (lv_at hl 0 rfl) ?_
    refine va_get (D := (dC, dI)) (ci := 4) (v := .int (nI nb)) (C := RX4) (T := TX4) (N := 10) hx hb hts hi4 hown hK hP 0 rfl rfl 3 (by decide) f96 (fun _ h9 => h9) rfl dX4_needMeeting_10 ?_
    by_cases hk13 : 0 ≤ b ∧ b < nI nb
    · skip
      refine kmSv (As := [.int b, .int (nI nb)]) (rest := []) (WC := []) (W2 := []) (WR := [(ob, .inr (4, [.ref ahl, .int (nI nh), .ref abl, .int (nI nb), .ref asr, .ref pb, .ref atr, .int (nI nt), .ref tb, .ref mt]))]) (WN := [(ob, .inr (4, [.ref ahl, .int (nI nh), .ref abl, .int (nI nb), .ref asr, .ref pb, .ref atr, .int (nI nt), .ref tb, .ref mt]))]) (tyC := []) (isC := []) (isR := [0]) (isN := [0]) (its := []) ⟨hx, hb, hml, hown, hts⟩ (tX4_needIndex_r l dC dI b nb hk13 (by omega)) (va_cwS 2 hts gX4_needMeeting_X4_needIndex rfl rfl rfl (by decide +kernel) ⟨Nat.le_of_ble_eq_true rfl, Nat.le_of_ble_eq_true rfl⟩) hP hD hA hS hK rfl (by decide) rfl (by decide) (by decide) rfl (by decide) rfl rfl rfl hl.1 (Nat.le_of_ble_eq_true rfl) dX4_needMeeting_13 ⟨Nat.le_of_ble_eq_true rfl, Nat.le_of_ble_eq_true rfl⟩ (fun H locs hP hD hS => ?_)
      refine lv_iload_n hx hb dX4_needMeeting_16 rfl (lv_at hl 3 rfl) ?_
      refine lv_iconst (v := (nI 2)) hx hb dX4_needMeeting_17 (by decide) ?_
      by_cases hk18 : 0 ≤ pt ∧ pt < nI 2
      · skip
        refine kmSv (As := [.int pt, .int (nI 2)]) (rest := []) (WC := []) (W2 := []) (WR := [(ob, .inr (4, [.ref ahl, .int (nI nh), .ref abl, .int (nI nb), .ref asr, .ref pb, .ref atr, .int (nI nt), .ref tb, .ref mt]))]) (WN := [(ob, .inr (4, [.ref ahl, .int (nI nh), .ref abl, .int (nI nb), .ref asr, .ref pb, .ref atr, .int (nI nt), .ref tb, .ref mt]))]) (tyC := []) (isC := []) (isR := [0]) (isN := [0]) (its := []) ⟨hx, hb, hml, hown, hts⟩ (tX4_needIndex_r l dC dI pt 2 hk18 (by omega)) (va_cwS 2 hts gX4_needMeeting_X4_needIndex rfl rfl rfl (by decide +kernel) ⟨Nat.le_of_ble_eq_true rfl, Nat.le_of_ble_eq_true rfl⟩) hP hD hA hS hK rfl (by decide) rfl (by decide) (by decide) rfl (by decide) rfl rfl rfl hl.1 (Nat.le_of_ble_eq_true rfl) dX4_needMeeting_18 ⟨Nat.le_of_ble_eq_true rfl, Nat.le_of_ble_eq_true rfl⟩ (fun H locs hP hD hS => ?_)
        exact absurd ⟨hk5, hk13, hk18⟩ hbad
      · skip
        exact kTS (As := [.int pt, .int (nI 2)]) (rest := []) (WC := []) (W2c := fun (_ : Unit) => []) (WR := [(ob, .inr (4, [.ref ahl, .int (nI nh), .ref abl, .int (nI nb), .ref asr, .ref pb, .ref atr, .int (nI nt), .ref tb, .ref mt]))]) (WN := fun (_ : Unit) => [(ob, .inr (4, [.ref ahl, .int (nI nh), .ref abl, .int (nI nb), .ref asr, .ref pb, .ref atr, .int (nI nt), .ref tb, .ref mt]))]) (tyC := []) (isC := []) (isR := [0]) (isN := [0]) (its := []) ⟨hx, hb, hml, hown, hts⟩ (tX4_needIndex_e l dC dI pt 2 hk18 (by omega)) hlt (va_cwS 2 hts gX4_needMeeting_X4_needIndex rfl rfl rfl (by decide +kernel) ⟨Nat.le_of_ble_eq_true rfl, Nat.le_of_ble_eq_true rfl⟩) hP hD hA hS hK hT rfl (by decide) rfl (by decide) (by decide) (fun _ => rfl) (by decide) rfl rfl rfl hl.1 (Nat.le_of_ble_eq_true rfl) dX4_needMeeting_18 ⟨Nat.le_of_ble_eq_true rfl, Nat.le_of_ble_eq_true rfl⟩ htab hlocks (fun _ => ()) (fun _ => rfl)
    · skip
      exact kTS (As := [.int b, .int (nI nb)]) (rest := []) (WC := []) (W2c := fun (_ : Unit) => []) (WR := [(ob, .inr (4, [.ref ahl, .int (nI nh), .ref abl, .int (nI nb), .ref asr, .ref pb, .ref atr, .int (nI nt), .ref tb, .ref mt]))]) (WN := fun (_ : Unit) => [(ob, .inr (4, [.ref ahl, .int (nI nh), .ref abl, .int (nI nb), .ref asr, .ref pb, .ref atr, .int (nI nt), .ref tb, .ref mt]))]) (tyC := []) (isC := []) (isR := [0]) (isN := [0]) (its := []) ⟨hx, hb, hml, hown, hts⟩ (tX4_needIndex_e l dC dI b nb hk13 (by omega)) hlt (va_cwS 2 hts gX4_needMeeting_X4_needIndex rfl rfl rfl (by decide +kernel) ⟨Nat.le_of_ble_eq_true rfl, Nat.le_of_ble_eq_true rfl⟩) hP hD hA hS hK hT rfl (by decide) rfl (by decide) (by decide) (fun _ => rfl) (by decide) rfl rfl rfl hl.1 (Nat.le_of_ble_eq_true rfl) dX4_needMeeting_13 ⟨Nat.le_of_ble_eq_true rfl, Nat.le_of_ble_eq_true rfl⟩ htab hlocks (fun _ => ()) (fun _ => rfl)
  · skip
    exact kTS (As := [.int a, .int (nI nb)]) (rest := []) (WC := []) (W2c := fun (_ : Unit) => []) (WR := [(ob, .inr (4, [.ref ahl, .int (nI nh), .ref abl, .int (nI nb), .ref asr, .ref pb, .ref atr, .int (nI nt), .ref tb, .ref mt]))]) (WN := fun (_ : Unit) => [(ob, .inr (4, [.ref ahl, .int (nI nh), .ref abl, .int (nI nb), .ref asr, .ref pb, .ref atr, .int (nI nt), .ref tb, .ref mt]))]) (tyC := []) (isC := []) (isR := [0]) (isN := [0]) (its := []) ⟨hx, hb, hml, hown, hts⟩ (tX4_needIndex_e l dC dI a nb hk5 (by omega)) hlt (va_cwS 2 hts gX4_needMeeting_X4_needIndex rfl rfl rfl (by decide +kernel) ⟨Nat.le_of_ble_eq_true rfl, Nat.le_of_ble_eq_true rfl⟩) hP hD hA hS hK hT rfl (by decide) rfl (by decide) (by decide) (fun _ => rfl) (by decide) rfl rfl rfl hl.1 (Nat.le_of_ble_eq_true rfl) dX4_needMeeting_5 ⟨Nat.le_of_ble_eq_true rfl, Nat.le_of_ble_eq_true rfl⟩ htab hlocks (fun _ => ()) (fun _ => rfl)

theorem xin_X4_shape_59 : ∀ w ∈ (vx_atS RX4 59 "java/lang/IllegalStateException" tNm).filter goodWord, w ∈ wsX4_shape := by decide +kernel
theorem xin_X4_point_59 : ∀ w ∈ (vx_atS RX4 59 "java/lang/IllegalStateException" tNm).filter goodWord, w ∈ wsX4_point := by decide +kernel
theorem xin_X4_box_59 : ∀ w ∈ (vx_atS RX4 59 "java/lang/IllegalStateException" tNm).filter goodWord, w ∈ wsX4_box := by decide +kernel
theorem xin_X4_box_105 : ∀ w ∈ (vx_atS RX4 105 "java/lang/IllegalArgumentException" tNm).filter goodWord, w ∈ wsX4_box := by decide +kernel
theorem xin_X4_tile_59 : ∀ w ∈ (vx_atS RX4 59 "java/lang/IllegalStateException" tNm).filter goodWord, w ∈ wsX4_tile := by decide +kernel
theorem xin_X4_player_105 : ∀ w ∈ (vx_atS RX4 105 "java/lang/IllegalArgumentException" tNm).filter goodWord, w ∈ wsX4_player := by decide +kernel
theorem xin_X4_step_105 : ∀ w ∈ (vx_atS RX4 105 "java/lang/IllegalArgumentException" tNm).filter goodWord, w ∈ wsX4_step := by decide +kernel
theorem xin_X4_at_183 : ∀ w ∈ (vx_atS RX4 183 "java/lang/IndexOutOfBoundsException" tNm).filter goodWord, w ∈ wsX4_at := by decide +kernel
theorem xin_X4_sweep_183 : ∀ w ∈ (vx_atS RX4 183 "java/lang/IndexOutOfBoundsException" tNm).filter goodWord, w ∈ wsX4_sweep := by decide +kernel
set_option maxHeartbeats 4000000 in
set_option maxRecDepth 100000 in
theorem tX4_shape_e (l : Launch) (dC : Nat → ClassId) (dI : Nat → Nat → Nat) (ob ahl nh abl nb asr pb atr nt tb mt : Nat) (hn : nh = 16) : TMi l yX4_shape wsX4_shape { frames := 6, cells := 1, slots := 6, locals := 90 } [.ref ob] (dC, dI) [(ob, .inr (4, [.ref ahl, .int (nI nh), .ref abl, .int (nI nb), .ref asr, .ref pb, .ref atr, .int (nI nt), .ref tb, .ref mt]))] (fun (u : Unit) => [(ob, .inr (4, [.ref ahl, .int (nI nh), .ref abl, .int (nI nb), .ref asr, .ref pb, .ref atr, .int (nI nt), .ref tb, .ref mt]))]) [] "java/lang/IllegalStateException" := by
  intro hlt sz
  refine kOfX (cc := cX4_shape) (maxL := 1) (ret := (some .int)) (by decide) rfl (Nat.le_of_ble_eq_true rfl) ?_
  intro p e s m below meth c hx hb hr hml hts hown hlocks htab hB ls hl
  obtain ⟨⟨hsz, hP, hK, hD0⟩, hT⟩ := hB
  subst hsz
  have hD := hD0.self (sz := s.heap.size)
  generalize hAe : va_A [(ob, .inr (4, [.ref ahl, .int (nI nh), .ref abl, .int (nI nb), .ref asr, .ref pb, .ref atr, .int (nI nt), .ref tb, .ref mt]))] s.heap.size = A at hD hT ⊢
  have hA : ∀ q : Nat, s.heap.size ≤ q → A q := fun q h => by rw [← hAe]; exact Or.inr h
  have hS : va_S A s.heap s.heap [] := va_S.rf
  have hl : lv_has ls 1 [(0, .ref ob)] := hl
  have hi4 : ∀ w ∈ u_ws RX4 TX4 10, w ∈ wsX4_shape := by decide +kernel
  have f51 := hts (.fieldLink RX4 51 "SweptBoxes" "hullCount" "I") (by decide +kernel)
  refine lv_aload_n hx hb dX4_shape_0 rfl (lv_at hl 0 rfl) ?_
  refine va_get (D := (dC, dI)) (ci := 4) (v := .int (nI nh)) (C := RX4) (T := TX4) (N := 10) hx hb hts hi4 hown hK hP 0 rfl rfl 1 (by decide) f51 (fun _ h9 => h9) rfl dX4_shape_1 ?_
  refine lv_bipush (v := (nI 16)) hx hb dX4_shape_4 (by decide) ?_
  refine lv_icmp_lt (tgt := 19) hx hb dX4_shape_6 (by decide) (fun c6 => ?_) (fun c6 => ?_)
  · rw [nI_ltI (by omega) (by omega)] at c6
    exfalso; omega
  · rw [nI_ltI (by omega) (by omega), Nat.not_lt] at c6
    exact kThrow (u := ()) (is := 57) (rest := []) hx hb hlt hown (by decide +kernel) (by decide +kernel) (by decide +kernel) (hts (.classLink RX4 55 "java/lang/IllegalStateException") (by decide +kernel)) (hts (.initialized "java/lang/IllegalStateException") (by decide +kernel)) (List.mem_of_getElem? (i := 0) rfl) (fun w h => hts w (xin_X4_shape_59 w h)) xbad_59 xgood_59 hT hS (hl.1.trans hml.symm) dX4_shape_9 dX4_shape_12 dX4_shape_13 dX4_shape_15 dX4_shape_18 htab (Nat.lt_of_lt_of_le (by decide) (Nat.le_of_ble_eq_true rfl : 6 ≤ _)) (Nat.le_of_ble_eq_true rfl) (Nat.le_of_ble_eq_true rfl) (Nat.le_of_ble_eq_true rfl) hlocks hP hK hD

set_option maxHeartbeats 4000000 in
set_option maxRecDepth 100000 in
theorem tX4_point_e1 (l : Launch) (dC : Nat → ClassId) (dI : Nat → Nat → Nat) (ob ahl nh abl nb asr pb atr nt tb mt : Nat) (si : Int32) (x y : Int64) (hbad : ¬ (0 ≤ si ∧ si < nI nh)) (hn : nh ≤ 16) : TMi l yX4_point wsX4_point { frames := 7, cells := 1, slots := 6, locals := 111 } [.ref ob, .int si, .long x, .long y] (dC, dI) [(ob, .inr (4, [.ref ahl, .int (nI nh), .ref abl, .int (nI nb), .ref asr, .ref pb, .ref atr, .int (nI nt), .ref tb, .ref mt]))] (fun (u : Unit) => [(ob, .inr (4, [.ref ahl, .int (nI nh), .ref abl, .int (nI nb), .ref asr, .ref pb, .ref atr, .int (nI nt), .ref tb, .ref mt]))]) [] "java/lang/IndexOutOfBoundsException" := by
  intro hlt sz
  refine kOfX (cc := cX4_point) (maxL := 7) (ret := (some .boolean)) (by decide) rfl (Nat.le_of_ble_eq_true rfl) ?_
  intro p e s m below meth c hx hb hr hml hts hown hlocks htab hB ls hl
  obtain ⟨⟨hsz, hP, hK, hD0⟩, hT⟩ := hB
  subst hsz
  have hD := hD0.self (sz := s.heap.size)
  generalize hAe : va_A [(ob, .inr (4, [.ref ahl, .int (nI nh), .ref abl, .int (nI nb), .ref asr, .ref pb, .ref atr, .int (nI nt), .ref tb, .ref mt]))] s.heap.size = A at hD hT ⊢
  have hA : ∀ q : Nat, s.heap.size ≤ q → A q := fun q h => by rw [← hAe]; exact Or.inr h
  have hS : va_S A s.heap s.heap [] := va_S.rf
  have hl : lv_has ls 7 [(0, .ref ob), (1, .int si), (2, .long x), (4, .long y)] := hl
  have hi4 : ∀ w ∈ u_ws RX4 TX4 10, w ∈ wsX4_point := by decide +kernel
  have f51 := hts (.fieldLink RX4 51 "SweptBoxes" "hullCount" "I") (by decide +kernel)
  refine lv_iload_n hx hb dX4_point_0 rfl (lv_at hl 1 rfl) ?_
  refine lv_aload_n hx hb dX4_point_1 rfl (lv_at hl 0 rfl) ?_
  refine va_get (D := (dC, dI)) (ci := 4) (v := .int (nI nh)) (C := RX4) (T := TX4) (N := 10) hx hb hts hi4 hown hK hP 0 rfl rfl 1 (by decide) f51 (fun _ h9 => h9) rfl dX4_point_2 ?_
  exact kTS (As := [.int si, .int (nI nh)]) (rest := []) (WC := []) (W2c := fun (_ : Unit) => []) (WR := [(ob, .inr (4, [.ref ahl, .int (nI nh), .ref abl, .int (nI nb), .ref asr, .ref pb, .ref atr, .int (nI nt), .ref tb, .ref mt]))]) (WN := fun (_ : Unit) => [(ob, .inr (4, [.ref ahl, .int (nI nh), .ref abl, .int (nI nb), .ref asr, .ref pb, .ref atr, .int (nI nt), .ref tb, .ref mt]))]) (tyC := []) (isC := []) (isR := [0]) (isN := [0]) (its := []) ⟨hx, hb, hml, hown, hts⟩ (tX4_needIndex_e l dC dI si nh hbad (by omega)) hlt (va_cwS 2 hts gX4_point_X4_needIndex rfl rfl rfl (by decide +kernel) ⟨Nat.le_of_ble_eq_true rfl, Nat.le_of_ble_eq_true rfl⟩) hP hD hA hS hK hT rfl (by decide) rfl (by decide) (by decide) (fun _ => rfl) (by decide) rfl rfl rfl hl.1 (Nat.le_of_ble_eq_true rfl) dX4_point_5 ⟨Nat.le_of_ble_eq_true rfl, Nat.le_of_ble_eq_true rfl⟩ htab hlocks (fun _ => ()) (fun _ => rfl)

set_option maxHeartbeats 4000000 in
set_option maxRecDepth 100000 in
theorem tX4_point_e2 (l : Launch) (dC : Nat → ClassId) (dI : Nat → Nat → Nat) (cH cJ : ClassId) (ob ahl nh abl nb asr pb atr nt tb mt : Nat) (fhl : Nat → Option Nat) (s_ : Nat) (h0 ox oy ax ay pn on n : Nat) (fox foy fx fy : Nat → Int64) (x y : Int64) (hs : s_ < nh) (hn : nh ≤ 16) (hh : fhl s_ = some h0) (hp : pn = 16) : TMi l yX4_point wsX4_point { frames := 6, cells := 1, slots := 6, locals := 90 } [.ref ob, .int (nI s_), .long x, .long y] (dC, dI) [(ob, .inr (4, [.ref ahl, .int (nI nh), .ref abl, .int (nI nb), .ref asr, .ref pb, .ref atr, .int (nI nt), .ref tb, .ref mt])), (ahl, .inl (cH, 16, .inr (.inr (.inr (.inr fhl))))), (h0, .inr (1, [.int (nI pn), .ref ox, .ref oy, .int (nI on), .ref ax, .ref ay, .int (nI n)])), (ox, .inl (cJ, 16, .inr (.inl fox))), (oy, .inl (cJ, 16, .inr (.inl foy))), (ax, .inl (cJ, 32, .inr (.inl fx))), (ay, .inl (cJ, 32, .inr (.inl fy)))] (fun (u : Unit) => [(ob, .inr (4, [.ref ahl, .int (nI nh), .ref abl, .int (nI nb), .ref asr, .ref pb, .ref atr, .int (nI nt), .ref tb, .ref mt])), (ahl, .inl (cH, 16, .inr (.inr (.inr (.inr fhl))))), (h0, .inr (1, [.int (nI pn), .ref ox, .ref oy, .int (nI on), .ref ax, .ref ay, .int (nI n)])), (ox, .inl (cJ, 16, .inr (.inl fox))), (oy, .inl (cJ, 16, .inr (.inl foy))), (ax, .inl (cJ, 32, .inr (.inl fx))), (ay, .inl (cJ, 32, .inr (.inl fy)))]) [(cH, .object "SweptBoxes$Hull"), (cJ, .long)] "java/lang/IllegalStateException" := by
  intro hlt sz
  refine kOfX (cc := cX4_point) (maxL := 7) (ret := (some .boolean)) (by decide) rfl (Nat.le_of_ble_eq_true rfl) ?_
  intro p e s m below meth c hx hb hr hml hts hown hlocks htab hB ls hl
  obtain ⟨⟨hsz, hP, hK, hD0⟩, hT⟩ := hB
  subst hsz
  have hD := hD0.self (sz := s.heap.size)
  generalize hAe : va_A [(ob, .inr (4, [.ref ahl, .int (nI nh), .ref abl, .int (nI nb), .ref asr, .ref pb, .ref atr, .int (nI nt), .ref tb, .ref mt])), (ahl, .inl (cH, 16, .inr (.inr (.inr (.inr fhl))))), (h0, .inr (1, [.int (nI pn), .ref ox, .ref oy, .int (nI on), .ref ax, .ref ay, .int (nI n)])), (ox, .inl (cJ, 16, .inr (.inl fox))), (oy, .inl (cJ, 16, .inr (.inl foy))), (ax, .inl (cJ, 32, .inr (.inl fx))), (ay, .inl (cJ, 32, .inr (.inl fy)))] s.heap.size = A at hD hT ⊢
  have hA : ∀ q : Nat, s.heap.size ≤ q → A q := fun q h => by rw [← hAe]; exact Or.inr h
  have hS : va_S A s.heap s.heap [] := va_S.rf
  have hl : lv_has ls 7 [(0, .ref ob), (1, .int (nI s_)), (2, .long x), (4, .long y)] := hl
  have hi1 : ∀ w ∈ u_ws RX1 TX1 7, w ∈ wsX4_point := by decide +kernel
  have hi4 : ∀ w ∈ u_ws RX4 TX4 10, w ∈ wsX4_point := by decide +kernel
  have f11 := hts (.fieldLink RX4 11 "SweptBoxes" "hulls" "[LSweptBoxes$Hull;") (by decide +kernel)
  have f51 := hts (.fieldLink RX4 51 "SweptBoxes" "hullCount" "I") (by decide +kernel)
  have f69 := hts (.fieldLink RX4 69 "SweptBoxes$Hull" "pointCount" "I") (by decide +kernel)
  refine lv_iload_n hx hb dX4_point_0 rfl (lv_at hl 1 rfl) ?_
  refine lv_aload_n hx hb dX4_point_1 rfl (lv_at hl 0 rfl) ?_
  refine va_get (D := (dC, dI)) (ci := 4) (v := .int (nI nh)) (C := RX4) (T := TX4) (N := 10) hx hb hts hi4 hown hK hP 0 rfl rfl 1 (by decide) f51 (fun _ h9 => h9) rfl dX4_point_2 ?_
  refine kmSv (As := [.int (nI s_), .int (nI nh)]) (rest := []) (WC := []) (W2 := []) (WR := [(ob, .inr (4, [.ref ahl, .int (nI nh), .ref abl, .int (nI nb), .ref asr, .ref pb, .ref atr, .int (nI nt), .ref tb, .ref mt])), (ahl, .inl (cH, 16, .inr (.inr (.inr (.inr fhl))))), (h0, .inr (1, [.int (nI pn), .ref ox, .ref oy, .int (nI on), .ref ax, .ref ay, .int (nI n)])), (ox, .inl (cJ, 16, .inr (.inl fox))), (oy, .inl (cJ, 16, .inr (.inl foy))), (ax, .inl (cJ, 32, .inr (.inl fx))), (ay, .inl (cJ, 32, .inr (.inl fy)))]) (WN := [(ob, .inr (4, [.ref ahl, .int (nI nh), .ref abl, .int (nI nb), .ref asr, .ref pb, .ref atr, .int (nI nt), .ref tb, .ref mt])), (ahl, .inl (cH, 16, .inr (.inr (.inr (.inr fhl))))), (h0, .inr (1, [.int (nI pn), .ref ox, .ref oy, .int (nI on), .ref ax, .ref ay, .int (nI n)])), (ox, .inl (cJ, 16, .inr (.inl fox))), (oy, .inl (cJ, 16, .inr (.inl foy))), (ax, .inl (cJ, 32, .inr (.inl fx))), (ay, .inl (cJ, 32, .inr (.inl fy)))]) (tyC := []) (isC := []) (isR := [0, 1, 2, 3, 4, 5, 6]) (isN := [0, 1, 2, 3, 4, 5, 6]) (its := []) ⟨hx, hb, hml, hown, hts⟩ (tX4_needIndex_o l dC dI s_ nh (by omega) (by omega)) (va_cwS 2 hts gX4_point_X4_needIndex rfl rfl rfl (by decide +kernel) ⟨Nat.le_of_ble_eq_true rfl, Nat.le_of_ble_eq_true rfl⟩) hP hD hA hS hK rfl (by decide) rfl (by decide) (by decide) rfl (by decide) rfl rfl rfl hl.1 (Nat.le_of_ble_eq_true rfl) dX4_point_5 ⟨Nat.le_of_ble_eq_true rfl, Nat.le_of_ble_eq_true rfl⟩ (fun H locs hP hD hS => ?_)
  refine lv_aload_n hx hb dX4_point_8 rfl (lv_at hl 0 rfl) ?_
  refine va_get (D := (dC, dI)) (ci := 4) (v := .ref ahl) (C := RX4) (T := TX4) (N := 10) hx hb hts hi4 hown hK hP 0 rfl rfl 0 (by decide) f11 (fun _ h9 => h9) rfl dX4_point_9 ?_
  refine lv_iload_n hx hb dX4_point_12 rfl (lv_at hl 1 rfl) ?_
  refine va_aldq hx hb hK hP 1 0 rfl rfl (vp_in_nI (show s_ < 16 by omega) (by omega)) dX4_point_13 ?_
  rw [show (nI s_).toNatClampNeg = s_ from nI_clamp (show s_ < 2 ^ 31 by omega)]
  rw [show (fhl s_) = some h0 from hh]
  refine lv_astore (lv' := [(6, .ref h0), (0, .ref ob), (1, .int (nI s_)), (2, .long x), (4, .long y)]) hx hb dX4_point_14 hl (by decide) rfl (fun ls hl => ?_)
  refine lv_aload hx hb dX4_point_16 (lv_at hl 0 rfl) ?_
  refine va_get (D := (dC, dI)) (ci := 1) (v := .int (nI pn)) (C := RX1) (T := TX1) (N := 7) hx hb hts hi1 hown hK hP 2 rfl rfl 0 (by decide) f69 (fun _ h9 => h9) rfl dX4_point_18 ?_
  refine lv_bipush (v := (nI 16)) hx hb dX4_point_21 (by decide) ?_
  refine lv_icmp_lt (tgt := 36) hx hb dX4_point_23 (by decide) (fun c23 => ?_) (fun c23 => ?_)
  · rw [nI_ltI (by omega) (by omega)] at c23
    exfalso; omega
  · rw [nI_ltI (by omega) (by omega), Nat.not_lt] at c23
    exact kThrow (u := ()) (is := 72) (rest := []) hx hb hlt hown (by decide +kernel) (by decide +kernel) (by decide +kernel) (hts (.classLink RX4 55 "java/lang/IllegalStateException") (by decide +kernel)) (hts (.initialized "java/lang/IllegalStateException") (by decide +kernel)) (List.mem_of_getElem? (i := 1) rfl) (fun w h => hts w (xin_X4_point_59 w h)) xbad_59 xgood_59 hT hS (hl.1.trans hml.symm) dX4_point_26 dX4_point_29 dX4_point_30 dX4_point_32 dX4_point_35 htab (Nat.lt_of_lt_of_le (by decide) (Nat.le_of_ble_eq_true rfl : 6 ≤ _)) (Nat.le_of_ble_eq_true rfl) (Nat.le_of_ble_eq_true rfl) (Nat.le_of_ble_eq_true rfl) hlocks hP hK hD

set_option maxHeartbeats 4000000 in
set_option maxRecDepth 100000 in
theorem tX4_point_e3 (l : Launch) (dC : Nat → ClassId) (dI : Nat → Nat → Nat) (cH cJ : ClassId) (ob ahl nh abl nb asr pb atr nt tb mt : Nat) (fhl : Nat → Option Nat) (s_ : Nat) (h0 ox oy ax ay pn on n : Nat) (fox foy fx fy : Nat → Int64) (x y : Int64) (hs : s_ < nh) (hn : nh ≤ 16) (hh : fhl s_ = some h0) (hp : pn < 16) (hbad : ¬ ((-10000 ≤ x ∧ x ≤ 10000) ∧ (-10000 ≤ y ∧ y ≤ 10000))) : TMi l yX4_point wsX4_point { frames := 7, cells := 1, slots := 6, locals := 113 } [.ref ob, .int (nI s_), .long x, .long y] (dC, dI) [(ob, .inr (4, [.ref ahl, .int (nI nh), .ref abl, .int (nI nb), .ref asr, .ref pb, .ref atr, .int (nI nt), .ref tb, .ref mt])), (ahl, .inl (cH, 16, .inr (.inr (.inr (.inr fhl))))), (h0, .inr (1, [.int (nI pn), .ref ox, .ref oy, .int (nI on), .ref ax, .ref ay, .int (nI n)])), (ox, .inl (cJ, 16, .inr (.inl fox))), (oy, .inl (cJ, 16, .inr (.inl foy))), (ax, .inl (cJ, 32, .inr (.inl fx))), (ay, .inl (cJ, 32, .inr (.inl fy)))] (fun (u : Unit) => [(ob, .inr (4, [.ref ahl, .int (nI nh), .ref abl, .int (nI nb), .ref asr, .ref pb, .ref atr, .int (nI nt), .ref tb, .ref mt])), (ahl, .inl (cH, 16, .inr (.inr (.inr (.inr fhl))))), (h0, .inr (1, [.int (nI pn), .ref ox, .ref oy, .int (nI on), .ref ax, .ref ay, .int (nI n)])), (ox, .inl (cJ, 16, .inr (.inl fox))), (oy, .inl (cJ, 16, .inr (.inl foy))), (ax, .inl (cJ, 32, .inr (.inl fx))), (ay, .inl (cJ, 32, .inr (.inl fy)))]) [(cH, .object "SweptBoxes$Hull"), (cJ, .long)] "java/lang/IllegalArgumentException" := by
  intro hlt sz
  refine kOfX (cc := cX4_point) (maxL := 7) (ret := (some .boolean)) (by decide) rfl (Nat.le_of_ble_eq_true rfl) ?_
  intro p e s m below meth c hx hb hr hml hts hown hlocks htab hB ls hl
  obtain ⟨⟨hsz, hP, hK, hD0⟩, hT⟩ := hB
  subst hsz
  have hD := hD0.self (sz := s.heap.size)
  generalize hAe : va_A [(ob, .inr (4, [.ref ahl, .int (nI nh), .ref abl, .int (nI nb), .ref asr, .ref pb, .ref atr, .int (nI nt), .ref tb, .ref mt])), (ahl, .inl (cH, 16, .inr (.inr (.inr (.inr fhl))))), (h0, .inr (1, [.int (nI pn), .ref ox, .ref oy, .int (nI on), .ref ax, .ref ay, .int (nI n)])), (ox, .inl (cJ, 16, .inr (.inl fox))), (oy, .inl (cJ, 16, .inr (.inl foy))), (ax, .inl (cJ, 32, .inr (.inl fx))), (ay, .inl (cJ, 32, .inr (.inl fy)))] s.heap.size = A at hD hT ⊢
  have hA : ∀ q : Nat, s.heap.size ≤ q → A q := fun q h => by rw [← hAe]; exact Or.inr h
  have hS : va_S A s.heap s.heap [] := va_S.rf
  have hl : lv_has ls 7 [(0, .ref ob), (1, .int (nI s_)), (2, .long x), (4, .long y)] := hl
  have hi1 : ∀ w ∈ u_ws RX1 TX1 7, w ∈ wsX4_point := by decide +kernel
  have hi4 : ∀ w ∈ u_ws RX4 TX4 10, w ∈ wsX4_point := by decide +kernel
  have f11 := hts (.fieldLink RX4 11 "SweptBoxes" "hulls" "[LSweptBoxes$Hull;") (by decide +kernel)
  have f51 := hts (.fieldLink RX4 51 "SweptBoxes" "hullCount" "I") (by decide +kernel)
  have f69 := hts (.fieldLink RX4 69 "SweptBoxes$Hull" "pointCount" "I") (by decide +kernel)
  refine lv_iload_n hx hb dX4_point_0 rfl (lv_at hl 1 rfl) ?_
  refine lv_aload_n hx hb dX4_point_1 rfl (lv_at hl 0 rfl) ?_
  refine va_get (D := (dC, dI)) (ci := 4) (v := .int (nI nh)) (C := RX4) (T := TX4) (N := 10) hx hb hts hi4 hown hK hP 0 rfl rfl 1 (by decide) f51 (fun _ h9 => h9) rfl dX4_point_2 ?_
  refine kmSv (As := [.int (nI s_), .int (nI nh)]) (rest := []) (WC := []) (W2 := []) (WR := [(ob, .inr (4, [.ref ahl, .int (nI nh), .ref abl, .int (nI nb), .ref asr, .ref pb, .ref atr, .int (nI nt), .ref tb, .ref mt])), (ahl, .inl (cH, 16, .inr (.inr (.inr (.inr fhl))))), (h0, .inr (1, [.int (nI pn), .ref ox, .ref oy, .int (nI on), .ref ax, .ref ay, .int (nI n)])), (ox, .inl (cJ, 16, .inr (.inl fox))), (oy, .inl (cJ, 16, .inr (.inl foy))), (ax, .inl (cJ, 32, .inr (.inl fx))), (ay, .inl (cJ, 32, .inr (.inl fy)))]) (WN := [(ob, .inr (4, [.ref ahl, .int (nI nh), .ref abl, .int (nI nb), .ref asr, .ref pb, .ref atr, .int (nI nt), .ref tb, .ref mt])), (ahl, .inl (cH, 16, .inr (.inr (.inr (.inr fhl))))), (h0, .inr (1, [.int (nI pn), .ref ox, .ref oy, .int (nI on), .ref ax, .ref ay, .int (nI n)])), (ox, .inl (cJ, 16, .inr (.inl fox))), (oy, .inl (cJ, 16, .inr (.inl foy))), (ax, .inl (cJ, 32, .inr (.inl fx))), (ay, .inl (cJ, 32, .inr (.inl fy)))]) (tyC := []) (isC := []) (isR := [0, 1, 2, 3, 4, 5, 6]) (isN := [0, 1, 2, 3, 4, 5, 6]) (its := []) ⟨hx, hb, hml, hown, hts⟩ (tX4_needIndex_o l dC dI s_ nh (by omega) (by omega)) (va_cwS 2 hts gX4_point_X4_needIndex rfl rfl rfl (by decide +kernel) ⟨Nat.le_of_ble_eq_true rfl, Nat.le_of_ble_eq_true rfl⟩) hP hD hA hS hK rfl (by decide) rfl (by decide) (by decide) rfl (by decide) rfl rfl rfl hl.1 (Nat.le_of_ble_eq_true rfl) dX4_point_5 ⟨Nat.le_of_ble_eq_true rfl, Nat.le_of_ble_eq_true rfl⟩ (fun H locs hP hD hS => ?_)
  refine lv_aload_n hx hb dX4_point_8 rfl (lv_at hl 0 rfl) ?_
  refine va_get (D := (dC, dI)) (ci := 4) (v := .ref ahl) (C := RX4) (T := TX4) (N := 10) hx hb hts hi4 hown hK hP 0 rfl rfl 0 (by decide) f11 (fun _ h9 => h9) rfl dX4_point_9 ?_
  refine lv_iload_n hx hb dX4_point_12 rfl (lv_at hl 1 rfl) ?_
  refine va_aldq hx hb hK hP 1 0 rfl rfl (vp_in_nI (show s_ < 16 by omega) (by omega)) dX4_point_13 ?_
  rw [show (nI s_).toNatClampNeg = s_ from nI_clamp (show s_ < 2 ^ 31 by omega)]
  rw [show (fhl s_) = some h0 from hh]
  refine lv_astore (lv' := [(6, .ref h0), (0, .ref ob), (1, .int (nI s_)), (2, .long x), (4, .long y)]) hx hb dX4_point_14 hl (by decide) rfl (fun ls hl => ?_)
  refine lv_aload hx hb dX4_point_16 (lv_at hl 0 rfl) ?_
  refine va_get (D := (dC, dI)) (ci := 1) (v := .int (nI pn)) (C := RX1) (T := TX1) (N := 7) hx hb hts hi1 hown hK hP 2 rfl rfl 0 (by decide) f69 (fun _ h9 => h9) rfl dX4_point_18 ?_
  refine lv_bipush (v := (nI 16)) hx hb dX4_point_21 (by decide) ?_
  refine lv_icmp_lt (tgt := 36) hx hb dX4_point_23 (by decide) (fun c23 => ?_) (fun c23 => ?_)
  · rw [nI_ltI (by omega) (by omega)] at c23
    refine lv_lload_n hx hb dX4_point_36 rfl (lv_at hl 3 rfl) ?_
    refine lv_lload hx hb dX4_point_37 (lv_at hl 4 rfl) ?_
    exact kTS (As := [.long x, .long y]) (rest := []) (WC := []) (W2c := fun (_ : Unit) => []) (WR := [(ob, .inr (4, [.ref ahl, .int (nI nh), .ref abl, .int (nI nb), .ref asr, .ref pb, .ref atr, .int (nI nt), .ref tb, .ref mt])), (ahl, .inl (cH, 16, .inr (.inr (.inr (.inr fhl))))), (h0, .inr (1, [.int (nI pn), .ref ox, .ref oy, .int (nI on), .ref ax, .ref ay, .int (nI n)])), (ox, .inl (cJ, 16, .inr (.inl fox))), (oy, .inl (cJ, 16, .inr (.inl foy))), (ax, .inl (cJ, 32, .inr (.inl fx))), (ay, .inl (cJ, 32, .inr (.inl fy)))]) (WN := fun (_ : Unit) => [(ob, .inr (4, [.ref ahl, .int (nI nh), .ref abl, .int (nI nb), .ref asr, .ref pb, .ref atr, .int (nI nt), .ref tb, .ref mt])), (ahl, .inl (cH, 16, .inr (.inr (.inr (.inr fhl))))), (h0, .inr (1, [.int (nI pn), .ref ox, .ref oy, .int (nI on), .ref ax, .ref ay, .int (nI n)])), (ox, .inl (cJ, 16, .inr (.inl fox))), (oy, .inl (cJ, 16, .inr (.inl foy))), (ax, .inl (cJ, 32, .inr (.inl fx))), (ay, .inl (cJ, 32, .inr (.inl fy)))]) (tyC := []) (isC := []) (isR := [0, 1, 2, 3, 4, 5, 6]) (isN := [0, 1, 2, 3, 4, 5, 6]) (its := []) ⟨hx, hb, hml, hown, hts⟩ (tX4_needInRange_e l dC dI x y hbad) hlt (va_cwS 2 hts gX4_point_X4_needInRange rfl rfl rfl (by decide +kernel) ⟨Nat.le_of_ble_eq_true rfl, Nat.le_of_ble_eq_true rfl⟩) hP hD hA hS hK hT rfl (by decide) rfl (by decide) (by decide) (fun _ => rfl) (by decide) rfl rfl rfl hl.1 (Nat.le_of_ble_eq_true rfl) dX4_point_39 ⟨Nat.le_of_ble_eq_true rfl, Nat.le_of_ble_eq_true rfl⟩ htab hlocks (fun _ => ()) (fun _ => rfl)
  · rw [nI_ltI (by omega) (by omega), Nat.not_lt] at c23
    exfalso; omega

set_option maxHeartbeats 4000000 in
set_option maxRecDepth 100000 in
theorem tX4_corners_e (l : Launch) (dC : Nat → ClassId) (dI : Nat → Nat → Nat) (ob ahl nh abl nb asr pb atr nt tb mt : Nat) (si : Int32) (hbad : ¬ (0 ≤ si ∧ si < nI nh)) (hn : nh ≤ 16) : TMi l yX4_corners wsX4_corners { frames := 7, cells := 1, slots := 6, locals := 111 } [.ref ob, .int si] (dC, dI) [(ob, .inr (4, [.ref ahl, .int (nI nh), .ref abl, .int (nI nb), .ref asr, .ref pb, .ref atr, .int (nI nt), .ref tb, .ref mt]))] (fun (u : Unit) => [(ob, .inr (4, [.ref ahl, .int (nI nh), .ref abl, .int (nI nb), .ref asr, .ref pb, .ref atr, .int (nI nt), .ref tb, .ref mt]))]) [] "java/lang/IndexOutOfBoundsException" := by
  intro hlt sz
  refine kOfX (cc := cX4_corners) (maxL := 2) (ret := (some .int)) (by decide) rfl (Nat.le_of_ble_eq_true rfl) ?_
  intro p e s m below meth c hx hb hr hml hts hown hlocks htab hB ls hl
  obtain ⟨⟨hsz, hP, hK, hD0⟩, hT⟩ := hB
  subst hsz
  have hD := hD0.self (sz := s.heap.size)
  generalize hAe : va_A [(ob, .inr (4, [.ref ahl, .int (nI nh), .ref abl, .int (nI nb), .ref asr, .ref pb, .ref atr, .int (nI nt), .ref tb, .ref mt]))] s.heap.size = A at hD hT ⊢
  have hA : ∀ q : Nat, s.heap.size ≤ q → A q := fun q h => by rw [← hAe]; exact Or.inr h
  have hS : va_S A s.heap s.heap [] := va_S.rf
  have hl : lv_has ls 2 [(0, .ref ob), (1, .int si)] := hl
  have hi4 : ∀ w ∈ u_ws RX4 TX4 10, w ∈ wsX4_corners := by decide +kernel
  have f51 := hts (.fieldLink RX4 51 "SweptBoxes" "hullCount" "I") (by decide +kernel)
  refine lv_iload_n hx hb dX4_corners_0 rfl (lv_at hl 1 rfl) ?_
  refine lv_aload_n hx hb dX4_corners_1 rfl (lv_at hl 0 rfl) ?_
  refine va_get (D := (dC, dI)) (ci := 4) (v := .int (nI nh)) (C := RX4) (T := TX4) (N := 10) hx hb hts hi4 hown hK hP 0 rfl rfl 1 (by decide) f51 (fun _ h9 => h9) rfl dX4_corners_2 ?_
  exact kTS (As := [.int si, .int (nI nh)]) (rest := []) (WC := []) (W2c := fun (_ : Unit) => []) (WR := [(ob, .inr (4, [.ref ahl, .int (nI nh), .ref abl, .int (nI nb), .ref asr, .ref pb, .ref atr, .int (nI nt), .ref tb, .ref mt]))]) (WN := fun (_ : Unit) => [(ob, .inr (4, [.ref ahl, .int (nI nh), .ref abl, .int (nI nb), .ref asr, .ref pb, .ref atr, .int (nI nt), .ref tb, .ref mt]))]) (tyC := []) (isC := []) (isR := [0]) (isN := [0]) (its := []) ⟨hx, hb, hml, hown, hts⟩ (tX4_needIndex_e l dC dI si nh hbad (by omega)) hlt (va_cwS 2 hts gX4_corners_X4_needIndex rfl rfl rfl (by decide +kernel) ⟨Nat.le_of_ble_eq_true rfl, Nat.le_of_ble_eq_true rfl⟩) hP hD hA hS hK hT rfl (by decide) rfl (by decide) (by decide) (fun _ => rfl) (by decide) rfl rfl rfl hl.1 (Nat.le_of_ble_eq_true rfl) dX4_corners_5 ⟨Nat.le_of_ble_eq_true rfl, Nat.le_of_ble_eq_true rfl⟩ htab hlocks (fun _ => ()) (fun _ => rfl)

set_option maxHeartbeats 4000000 in
set_option maxRecDepth 100000 in
theorem tX4_corner_e1 (l : Launch) (dC : Nat → ClassId) (dI : Nat → Nat → Nat) (ob ahl nh abl nb asr pb atr nt tb mt : Nat) (si sk sx : Int32) (hbad : ¬ (0 ≤ si ∧ si < nI nh)) (hn : nh ≤ 16) : TMl l yX4_corner wsX4_corner { frames := 7, cells := 1, slots := 6, locals := 111 } [.ref ob, .int si, .int sk, .int sx] (dC, dI) [(ob, .inr (4, [.ref ahl, .int (nI nh), .ref abl, .int (nI nb), .ref asr, .ref pb, .ref atr, .int (nI nt), .ref tb, .ref mt]))] (fun (u : Unit) => [(ob, .inr (4, [.ref ahl, .int (nI nh), .ref abl, .int (nI nb), .ref asr, .ref pb, .ref atr, .int (nI nt), .ref tb, .ref mt]))]) [] "java/lang/IndexOutOfBoundsException" := by
  intro hlt sz
  refine kOfX (cc := cX4_corner) (maxL := 5) (ret := (some .long)) (by decide) rfl (Nat.le_of_ble_eq_true rfl) ?_
  intro p e s m below meth c hx hb hr hml hts hown hlocks htab hB ls hl
  obtain ⟨⟨hsz, hP, hK, hD0⟩, hT⟩ := hB
  subst hsz
  have hD := hD0.self (sz := s.heap.size)
  generalize hAe : va_A [(ob, .inr (4, [.ref ahl, .int (nI nh), .ref abl, .int (nI nb), .ref asr, .ref pb, .ref atr, .int (nI nt), .ref tb, .ref mt]))] s.heap.size = A at hD hT ⊢
  have hA : ∀ q : Nat, s.heap.size ≤ q → A q := fun q h => by rw [← hAe]; exact Or.inr h
  have hS : va_S A s.heap s.heap [] := va_S.rf
  have hl : lv_has ls 5 [(0, .ref ob), (1, .int si), (2, .int sk), (3, .int sx)] := hl
  have hi4 : ∀ w ∈ u_ws RX4 TX4 10, w ∈ wsX4_corner := by decide +kernel
  have f51 := hts (.fieldLink RX4 51 "SweptBoxes" "hullCount" "I") (by decide +kernel)
  refine lv_iload_n hx hb dX4_corner_0 rfl (lv_at hl 1 rfl) ?_
  refine lv_aload_n hx hb dX4_corner_1 rfl (lv_at hl 0 rfl) ?_
  refine va_get (D := (dC, dI)) (ci := 4) (v := .int (nI nh)) (C := RX4) (T := TX4) (N := 10) hx hb hts hi4 hown hK hP 0 rfl rfl 1 (by decide) f51 (fun _ h9 => h9) rfl dX4_corner_2 ?_
  exact kTS (As := [.int si, .int (nI nh)]) (rest := []) (WC := []) (W2c := fun (_ : Unit) => []) (WR := [(ob, .inr (4, [.ref ahl, .int (nI nh), .ref abl, .int (nI nb), .ref asr, .ref pb, .ref atr, .int (nI nt), .ref tb, .ref mt]))]) (WN := fun (_ : Unit) => [(ob, .inr (4, [.ref ahl, .int (nI nh), .ref abl, .int (nI nb), .ref asr, .ref pb, .ref atr, .int (nI nt), .ref tb, .ref mt]))]) (tyC := []) (isC := []) (isR := [0]) (isN := [0]) (its := []) ⟨hx, hb, hml, hown, hts⟩ (tX4_needIndex_e l dC dI si nh hbad (by omega)) hlt (va_cwS 2 hts gX4_corner_X4_needIndex rfl rfl rfl (by decide +kernel) ⟨Nat.le_of_ble_eq_true rfl, Nat.le_of_ble_eq_true rfl⟩) hP hD hA hS hK hT rfl (by decide) rfl (by decide) (by decide) (fun _ => rfl) (by decide) rfl rfl rfl hl.1 (Nat.le_of_ble_eq_true rfl) dX4_corner_5 ⟨Nat.le_of_ble_eq_true rfl, Nat.le_of_ble_eq_true rfl⟩ htab hlocks (fun _ => ()) (fun _ => rfl)

set_option maxHeartbeats 4000000 in
set_option maxRecDepth 100000 in
theorem tX4_corner_e2 (l : Launch) (dC : Nat → ClassId) (dI : Nat → Nat → Nat) (cH cJ : ClassId) (ob ahl nh abl nb asr pb atr nt tb mt : Nat) (fhl : Nat → Option Nat) (s_ : Nat) (h0 ox oy ax ay pn on n : Nat) (fox foy fx fy : Nat → Int64) (sk sx : Int32) (hs : s_ < nh) (hn : nh ≤ 16) (hh : fhl s_ = some h0) (hn2 : n ≤ 32) (hbad : ¬ ((0 ≤ sk ∧ sk < nI n) ∧ (0 ≤ sx ∧ sx < nI 2))) : TMl l yX4_corner wsX4_corner { frames := 7, cells := 1, slots := 6, locals := 111 } [.ref ob, .int (nI s_), .int sk, .int sx] (dC, dI) [(ob, .inr (4, [.ref ahl, .int (nI nh), .ref abl, .int (nI nb), .ref asr, .ref pb, .ref atr, .int (nI nt), .ref tb, .ref mt])), (ahl, .inl (cH, 16, .inr (.inr (.inr (.inr fhl))))), (h0, .inr (1, [.int (nI pn), .ref ox, .ref oy, .int (nI on), .ref ax, .ref ay, .int (nI n)])), (ox, .inl (cJ, 16, .inr (.inl fox))), (oy, .inl (cJ, 16, .inr (.inl foy))), (ax, .inl (cJ, 32, .inr (.inl fx))), (ay, .inl (cJ, 32, .inr (.inl fy)))] (fun (u : Unit) => [(ob, .inr (4, [.ref ahl, .int (nI nh), .ref abl, .int (nI nb), .ref asr, .ref pb, .ref atr, .int (nI nt), .ref tb, .ref mt])), (ahl, .inl (cH, 16, .inr (.inr (.inr (.inr fhl))))), (h0, .inr (1, [.int (nI pn), .ref ox, .ref oy, .int (nI on), .ref ax, .ref ay, .int (nI n)])), (ox, .inl (cJ, 16, .inr (.inl fox))), (oy, .inl (cJ, 16, .inr (.inl foy))), (ax, .inl (cJ, 32, .inr (.inl fx))), (ay, .inl (cJ, 32, .inr (.inl fy)))]) [(cH, .object "SweptBoxes$Hull"), (cJ, .long)] "java/lang/IndexOutOfBoundsException" := by
  intro hlt sz
  refine kOfX (cc := cX4_corner) (maxL := 5) (ret := (some .long)) (by decide) rfl (Nat.le_of_ble_eq_true rfl) ?_
  intro p e s m below meth c hx hb hr hml hts hown hlocks htab hB ls hl
  obtain ⟨⟨hsz, hP, hK, hD0⟩, hT⟩ := hB
  subst hsz
  have hD := hD0.self (sz := s.heap.size)
  generalize hAe : va_A [(ob, .inr (4, [.ref ahl, .int (nI nh), .ref abl, .int (nI nb), .ref asr, .ref pb, .ref atr, .int (nI nt), .ref tb, .ref mt])), (ahl, .inl (cH, 16, .inr (.inr (.inr (.inr fhl))))), (h0, .inr (1, [.int (nI pn), .ref ox, .ref oy, .int (nI on), .ref ax, .ref ay, .int (nI n)])), (ox, .inl (cJ, 16, .inr (.inl fox))), (oy, .inl (cJ, 16, .inr (.inl foy))), (ax, .inl (cJ, 32, .inr (.inl fx))), (ay, .inl (cJ, 32, .inr (.inl fy)))] s.heap.size = A at hD hT ⊢
  have hA : ∀ q : Nat, s.heap.size ≤ q → A q := fun q h => by rw [← hAe]; exact Or.inr h
  have hS : va_S A s.heap s.heap [] := va_S.rf
  have hl : lv_has ls 5 [(0, .ref ob), (1, .int (nI s_)), (2, .int sk), (3, .int sx)] := hl
  have hi1 : ∀ w ∈ u_ws RX1 TX1 7, w ∈ wsX4_corner := by decide +kernel
  have hi4 : ∀ w ∈ u_ws RX4 TX4 10, w ∈ wsX4_corner := by decide +kernel
  have f11 := hts (.fieldLink RX4 11 "SweptBoxes" "hulls" "[LSweptBoxes$Hull;") (by decide +kernel)
  have f51 := hts (.fieldLink RX4 51 "SweptBoxes" "hullCount" "I") (by decide +kernel)
  have f82 := hts (.fieldLink RX4 82 "SweptBoxes$Hull" "size" "I") (by decide +kernel)
  refine lv_iload_n hx hb dX4_corner_0 rfl (lv_at hl 1 rfl) ?_
  refine lv_aload_n hx hb dX4_corner_1 rfl (lv_at hl 0 rfl) ?_
  refine va_get (D := (dC, dI)) (ci := 4) (v := .int (nI nh)) (C := RX4) (T := TX4) (N := 10) hx hb hts hi4 hown hK hP 0 rfl rfl 1 (by decide) f51 (fun _ h9 => h9) rfl dX4_corner_2 ?_
  refine kmSv (As := [.int (nI s_), .int (nI nh)]) (rest := []) (WC := []) (W2 := []) (WR := [(ob, .inr (4, [.ref ahl, .int (nI nh), .ref abl, .int (nI nb), .ref asr, .ref pb, .ref atr, .int (nI nt), .ref tb, .ref mt])), (ahl, .inl (cH, 16, .inr (.inr (.inr (.inr fhl))))), (h0, .inr (1, [.int (nI pn), .ref ox, .ref oy, .int (nI on), .ref ax, .ref ay, .int (nI n)])), (ox, .inl (cJ, 16, .inr (.inl fox))), (oy, .inl (cJ, 16, .inr (.inl foy))), (ax, .inl (cJ, 32, .inr (.inl fx))), (ay, .inl (cJ, 32, .inr (.inl fy)))]) (WN := [(ob, .inr (4, [.ref ahl, .int (nI nh), .ref abl, .int (nI nb), .ref asr, .ref pb, .ref atr, .int (nI nt), .ref tb, .ref mt])), (ahl, .inl (cH, 16, .inr (.inr (.inr (.inr fhl))))), (h0, .inr (1, [.int (nI pn), .ref ox, .ref oy, .int (nI on), .ref ax, .ref ay, .int (nI n)])), (ox, .inl (cJ, 16, .inr (.inl fox))), (oy, .inl (cJ, 16, .inr (.inl foy))), (ax, .inl (cJ, 32, .inr (.inl fx))), (ay, .inl (cJ, 32, .inr (.inl fy)))]) (tyC := []) (isC := []) (isR := [0, 1, 2, 3, 4, 5, 6]) (isN := [0, 1, 2, 3, 4, 5, 6]) (its := []) ⟨hx, hb, hml, hown, hts⟩ (tX4_needIndex_o l dC dI s_ nh (by omega) (by omega)) (va_cwS 2 hts gX4_corner_X4_needIndex rfl rfl rfl (by decide +kernel) ⟨Nat.le_of_ble_eq_true rfl, Nat.le_of_ble_eq_true rfl⟩) hP hD hA hS hK rfl (by decide) rfl (by decide) (by decide) rfl (by decide) rfl rfl rfl hl.1 (Nat.le_of_ble_eq_true rfl) dX4_corner_5 ⟨Nat.le_of_ble_eq_true rfl, Nat.le_of_ble_eq_true rfl⟩ (fun H locs hP hD hS => ?_)
  refine lv_aload_n hx hb dX4_corner_8 rfl (lv_at hl 0 rfl) ?_
  refine va_get (D := (dC, dI)) (ci := 4) (v := .ref ahl) (C := RX4) (T := TX4) (N := 10) hx hb hts hi4 hown hK hP 0 rfl rfl 0 (by decide) f11 (fun _ h9 => h9) rfl dX4_corner_9 ?_
  refine lv_iload_n hx hb dX4_corner_12 rfl (lv_at hl 1 rfl) ?_
  refine va_aldq hx hb hK hP 1 0 rfl rfl (vp_in_nI (show s_ < 16 by omega) (by omega)) dX4_corner_13 ?_
  rw [show (nI s_).toNatClampNeg = s_ from nI_clamp (show s_ < 2 ^ 31 by omega)]
  rw [show (fhl s_) = some h0 from hh]
  refine lv_astore (lv' := [(4, .ref h0), (0, .ref ob), (1, .int (nI s_)), (2, .int sk), (3, .int sx)]) hx hb dX4_corner_14 hl (by decide) rfl (fun ls hl => ?_)
  refine lv_iload_n hx hb dX4_corner_16 rfl (lv_at hl 3 rfl) ?_
  refine lv_aload hx hb dX4_corner_17 (lv_at hl 0 rfl) ?_
  refine va_get (D := (dC, dI)) (ci := 1) (v := .int (nI n)) (C := RX1) (T := TX1) (N := 7) hx hb hts hi1 hown hK hP 2 rfl rfl 6 (by decide) f82 (fun _ h9 => h9) rfl dX4_corner_19 ?_
  by_cases hk22 : 0 ≤ sk ∧ sk < nI n
  · skip
    refine kmSv (As := [.int sk, .int (nI n)]) (rest := []) (WC := []) (W2 := []) (WR := [(ob, .inr (4, [.ref ahl, .int (nI nh), .ref abl, .int (nI nb), .ref asr, .ref pb, .ref atr, .int (nI nt), .ref tb, .ref mt])), (ahl, .inl (cH, 16, .inr (.inr (.inr (.inr fhl))))), (h0, .inr (1, [.int (nI pn), .ref ox, .ref oy, .int (nI on), .ref ax, .ref ay, .int (nI n)])), (ox, .inl (cJ, 16, .inr (.inl fox))), (oy, .inl (cJ, 16, .inr (.inl foy))), (ax, .inl (cJ, 32, .inr (.inl fx))), (ay, .inl (cJ, 32, .inr (.inl fy)))]) (WN := [(ob, .inr (4, [.ref ahl, .int (nI nh), .ref abl, .int (nI nb), .ref asr, .ref pb, .ref atr, .int (nI nt), .ref tb, .ref mt])), (ahl, .inl (cH, 16, .inr (.inr (.inr (.inr fhl))))), (h0, .inr (1, [.int (nI pn), .ref ox, .ref oy, .int (nI on), .ref ax, .ref ay, .int (nI n)])), (ox, .inl (cJ, 16, .inr (.inl fox))), (oy, .inl (cJ, 16, .inr (.inl foy))), (ax, .inl (cJ, 32, .inr (.inl fx))), (ay, .inl (cJ, 32, .inr (.inl fy)))]) (tyC := []) (isC := []) (isR := [0, 1, 2, 3, 4, 5, 6]) (isN := [0, 1, 2, 3, 4, 5, 6]) (its := []) ⟨hx, hb, hml, hown, hts⟩ (tX4_needIndex_r l dC dI sk n hk22 (by omega)) (va_cwS 2 hts gX4_corner_X4_needIndex rfl rfl rfl (by decide +kernel) ⟨Nat.le_of_ble_eq_true rfl, Nat.le_of_ble_eq_true rfl⟩) hP hD hA hS hK rfl (by decide) rfl (by decide) (by decide) rfl (by decide) rfl rfl rfl hl.1 (Nat.le_of_ble_eq_true rfl) dX4_corner_22 ⟨Nat.le_of_ble_eq_true rfl, Nat.le_of_ble_eq_true rfl⟩ (fun H locs hP hD hS => ?_)
    refine lv_iload_n hx hb dX4_corner_25 rfl (lv_at hl 4 rfl) ?_
    refine lv_iconst (v := (nI 2)) hx hb dX4_corner_26 (by decide) ?_
    by_cases hk27 : 0 ≤ sx ∧ sx < nI 2
    · skip
      refine kmSv (As := [.int sx, .int (nI 2)]) (rest := []) (WC := []) (W2 := []) (WR := [(ob, .inr (4, [.ref ahl, .int (nI nh), .ref abl, .int (nI nb), .ref asr, .ref pb, .ref atr, .int (nI nt), .ref tb, .ref mt])), (ahl, .inl (cH, 16, .inr (.inr (.inr (.inr fhl))))), (h0, .inr (1, [.int (nI pn), .ref ox, .ref oy, .int (nI on), .ref ax, .ref ay, .int (nI n)])), (ox, .inl (cJ, 16, .inr (.inl fox))), (oy, .inl (cJ, 16, .inr (.inl foy))), (ax, .inl (cJ, 32, .inr (.inl fx))), (ay, .inl (cJ, 32, .inr (.inl fy)))]) (WN := [(ob, .inr (4, [.ref ahl, .int (nI nh), .ref abl, .int (nI nb), .ref asr, .ref pb, .ref atr, .int (nI nt), .ref tb, .ref mt])), (ahl, .inl (cH, 16, .inr (.inr (.inr (.inr fhl))))), (h0, .inr (1, [.int (nI pn), .ref ox, .ref oy, .int (nI on), .ref ax, .ref ay, .int (nI n)])), (ox, .inl (cJ, 16, .inr (.inl fox))), (oy, .inl (cJ, 16, .inr (.inl foy))), (ax, .inl (cJ, 32, .inr (.inl fx))), (ay, .inl (cJ, 32, .inr (.inl fy)))]) (tyC := []) (isC := []) (isR := [0, 1, 2, 3, 4, 5, 6]) (isN := [0, 1, 2, 3, 4, 5, 6]) (its := []) ⟨hx, hb, hml, hown, hts⟩ (tX4_needIndex_r l dC dI sx 2 hk27 (by omega)) (va_cwS 2 hts gX4_corner_X4_needIndex rfl rfl rfl (by decide +kernel) ⟨Nat.le_of_ble_eq_true rfl, Nat.le_of_ble_eq_true rfl⟩) hP hD hA hS hK rfl (by decide) rfl (by decide) (by decide) rfl (by decide) rfl rfl rfl hl.1 (Nat.le_of_ble_eq_true rfl) dX4_corner_27 ⟨Nat.le_of_ble_eq_true rfl, Nat.le_of_ble_eq_true rfl⟩ (fun H locs hP hD hS => ?_)
      exact absurd ⟨hk22, hk27⟩ hbad
    · skip
      exact kTS (As := [.int sx, .int (nI 2)]) (rest := []) (WC := []) (W2c := fun (_ : Unit) => []) (WR := [(ob, .inr (4, [.ref ahl, .int (nI nh), .ref abl, .int (nI nb), .ref asr, .ref pb, .ref atr, .int (nI nt), .ref tb, .ref mt])), (ahl, .inl (cH, 16, .inr (.inr (.inr (.inr fhl))))), (h0, .inr (1, [.int (nI pn), .ref ox, .ref oy, .int (nI on), .ref ax, .ref ay, .int (nI n)])), (ox, .inl (cJ, 16, .inr (.inl fox))), (oy, .inl (cJ, 16, .inr (.inl foy))), (ax, .inl (cJ, 32, .inr (.inl fx))), (ay, .inl (cJ, 32, .inr (.inl fy)))]) (WN := fun (_ : Unit) => [(ob, .inr (4, [.ref ahl, .int (nI nh), .ref abl, .int (nI nb), .ref asr, .ref pb, .ref atr, .int (nI nt), .ref tb, .ref mt])), (ahl, .inl (cH, 16, .inr (.inr (.inr (.inr fhl))))), (h0, .inr (1, [.int (nI pn), .ref ox, .ref oy, .int (nI on), .ref ax, .ref ay, .int (nI n)])), (ox, .inl (cJ, 16, .inr (.inl fox))), (oy, .inl (cJ, 16, .inr (.inl foy))), (ax, .inl (cJ, 32, .inr (.inl fx))), (ay, .inl (cJ, 32, .inr (.inl fy)))]) (tyC := []) (isC := []) (isR := [0, 1, 2, 3, 4, 5, 6]) (isN := [0, 1, 2, 3, 4, 5, 6]) (its := []) ⟨hx, hb, hml, hown, hts⟩ (tX4_needIndex_e l dC dI sx 2 hk27 (by omega)) hlt (va_cwS 2 hts gX4_corner_X4_needIndex rfl rfl rfl (by decide +kernel) ⟨Nat.le_of_ble_eq_true rfl, Nat.le_of_ble_eq_true rfl⟩) hP hD hA hS hK hT rfl (by decide) rfl (by decide) (by decide) (fun _ => rfl) (by decide) rfl rfl rfl hl.1 (Nat.le_of_ble_eq_true rfl) dX4_corner_27 ⟨Nat.le_of_ble_eq_true rfl, Nat.le_of_ble_eq_true rfl⟩ htab hlocks (fun _ => ()) (fun _ => rfl)
  · skip
    exact kTS (As := [.int sk, .int (nI n)]) (rest := []) (WC := []) (W2c := fun (_ : Unit) => []) (WR := [(ob, .inr (4, [.ref ahl, .int (nI nh), .ref abl, .int (nI nb), .ref asr, .ref pb, .ref atr, .int (nI nt), .ref tb, .ref mt])), (ahl, .inl (cH, 16, .inr (.inr (.inr (.inr fhl))))), (h0, .inr (1, [.int (nI pn), .ref ox, .ref oy, .int (nI on), .ref ax, .ref ay, .int (nI n)])), (ox, .inl (cJ, 16, .inr (.inl fox))), (oy, .inl (cJ, 16, .inr (.inl foy))), (ax, .inl (cJ, 32, .inr (.inl fx))), (ay, .inl (cJ, 32, .inr (.inl fy)))]) (WN := fun (_ : Unit) => [(ob, .inr (4, [.ref ahl, .int (nI nh), .ref abl, .int (nI nb), .ref asr, .ref pb, .ref atr, .int (nI nt), .ref tb, .ref mt])), (ahl, .inl (cH, 16, .inr (.inr (.inr (.inr fhl))))), (h0, .inr (1, [.int (nI pn), .ref ox, .ref oy, .int (nI on), .ref ax, .ref ay, .int (nI n)])), (ox, .inl (cJ, 16, .inr (.inl fox))), (oy, .inl (cJ, 16, .inr (.inl foy))), (ax, .inl (cJ, 32, .inr (.inl fx))), (ay, .inl (cJ, 32, .inr (.inl fy)))]) (tyC := []) (isC := []) (isR := [0, 1, 2, 3, 4, 5, 6]) (isN := [0, 1, 2, 3, 4, 5, 6]) (its := []) ⟨hx, hb, hml, hown, hts⟩ (tX4_needIndex_e l dC dI sk n hk22 (by omega)) hlt (va_cwS 2 hts gX4_corner_X4_needIndex rfl rfl rfl (by decide +kernel) ⟨Nat.le_of_ble_eq_true rfl, Nat.le_of_ble_eq_true rfl⟩) hP hD hA hS hK hT rfl (by decide) rfl (by decide) (by decide) (fun _ => rfl) (by decide) rfl rfl rfl hl.1 (Nat.le_of_ble_eq_true rfl) dX4_corner_22 ⟨Nat.le_of_ble_eq_true rfl, Nat.le_of_ble_eq_true rfl⟩ htab hlocks (fun _ => ()) (fun _ => rfl)

set_option maxHeartbeats 4000000 in
set_option maxRecDepth 100000 in
theorem tX4_apart_e (l : Launch) (dC : Nat → ClassId) (dI : Nat → Nat → Nat) (ob ahl nh abl nb asr pb atr nt tb mt : Nat) (si sj : Int32) (hbad : ¬ ((0 ≤ si ∧ si < nI nh) ∧ (0 ≤ sj ∧ sj < nI nh))) (hn : nh ≤ 16) : TMi l yX4_apart wsX4_apart { frames := 7, cells := 1, slots := 6, locals := 111 } [.ref ob, .int si, .int sj] (dC, dI) [(ob, .inr (4, [.ref ahl, .int (nI nh), .ref abl, .int (nI nb), .ref asr, .ref pb, .ref atr, .int (nI nt), .ref tb, .ref mt]))] (fun (u : Unit) => [(ob, .inr (4, [.ref ahl, .int (nI nh), .ref abl, .int (nI nb), .ref asr, .ref pb, .ref atr, .int (nI nt), .ref tb, .ref mt]))]) [] "java/lang/IndexOutOfBoundsException" := by
  intro hlt sz
  refine kOfX (cc := cX4_apart) (maxL := 3) (ret := (some .boolean)) (by decide) rfl (Nat.le_of_ble_eq_true rfl) ?_
  intro p e s m below meth c hx hb hr hml hts hown hlocks htab hB ls hl
  obtain ⟨⟨hsz, hP, hK, hD0⟩, hT⟩ := hB
  subst hsz
  have hD := hD0.self (sz := s.heap.size)
  generalize hAe : va_A [(ob, .inr (4, [.ref ahl, .int (nI nh), .ref abl, .int (nI nb), .ref asr, .ref pb, .ref atr, .int (nI nt), .ref tb, .ref mt]))] s.heap.size = A at hD hT ⊢
  have hA : ∀ q : Nat, s.heap.size ≤ q → A q := fun q h => by rw [← hAe]; exact Or.inr h
  have hS : va_S A s.heap s.heap [] := va_S.rf
  have hl : lv_has ls 3 [(0, .ref ob), (1, .int si), (2, .int sj)] := hl
  have hi4 : ∀ w ∈ u_ws RX4 TX4 10, w ∈ wsX4_apart := by decide +kernel
  have f51 := hts (.fieldLink RX4 51 "SweptBoxes" "hullCount" "I") (by decide +kernel)
  refine lv_iload_n hx hb dX4_apart_0 rfl (lv_at hl 1 rfl) ?_
  refine lv_aload_n hx hb dX4_apart_1 rfl (lv_at hl 0 rfl) ?_
  refine va_get (D := (dC, dI)) (ci := 4) (v := .int (nI nh)) (C := RX4) (T := TX4) (N := 10) hx hb hts hi4 hown hK hP 0 rfl rfl 1 (by decide) f51 (fun _ h9 => h9) rfl dX4_apart_2 ?_
  by_cases hk5 : 0 ≤ si ∧ si < nI nh
  · skip
    refine kmSv (As := [.int si, .int (nI nh)]) (rest := []) (WC := []) (W2 := []) (WR := [(ob, .inr (4, [.ref ahl, .int (nI nh), .ref abl, .int (nI nb), .ref asr, .ref pb, .ref atr, .int (nI nt), .ref tb, .ref mt]))]) (WN := [(ob, .inr (4, [.ref ahl, .int (nI nh), .ref abl, .int (nI nb), .ref asr, .ref pb, .ref atr, .int (nI nt), .ref tb, .ref mt]))]) (tyC := []) (isC := []) (isR := [0]) (isN := [0]) (its := []) ⟨hx, hb, hml, hown, hts⟩ (tX4_needIndex_r l dC dI si nh hk5 (by omega)) (va_cwS 2 hts gX4_apart_X4_needIndex rfl rfl rfl (by decide +kernel) ⟨Nat.le_of_ble_eq_true rfl, Nat.le_of_ble_eq_true rfl⟩) hP hD hA hS hK rfl (by decide) rfl (by decide) (by decide) rfl (by decide) rfl rfl rfl hl.1 (Nat.le_of_ble_eq_true rfl) dX4_apart_5 ⟨Nat.le_of_ble_eq_true rfl, Nat.le_of_ble_eq_true rfl⟩ (fun H locs hP hD hS => ?_)
    refine lv_iload_n hx hb dX4_apart_8 rfl (lv_at hl 2 rfl) ?_
    refine lv_aload_n hx hb dX4_apart_9 rfl (lv_at hl 0 rfl) ?_
    refine va_get (D := (dC, dI)) (ci := 4) (v := .int (nI nh)) (C := RX4) (T := TX4) (N := 10) hx hb hts hi4 hown hK hP 0 rfl rfl 1 (by decide) f51 (fun _ h9 => h9) rfl dX4_apart_10 ?_
    by_cases hk13 : 0 ≤ sj ∧ sj < nI nh
    · skip
      refine kmSv (As := [.int sj, .int (nI nh)]) (rest := []) (WC := []) (W2 := []) (WR := [(ob, .inr (4, [.ref ahl, .int (nI nh), .ref abl, .int (nI nb), .ref asr, .ref pb, .ref atr, .int (nI nt), .ref tb, .ref mt]))]) (WN := [(ob, .inr (4, [.ref ahl, .int (nI nh), .ref abl, .int (nI nb), .ref asr, .ref pb, .ref atr, .int (nI nt), .ref tb, .ref mt]))]) (tyC := []) (isC := []) (isR := [0]) (isN := [0]) (its := []) ⟨hx, hb, hml, hown, hts⟩ (tX4_needIndex_r l dC dI sj nh hk13 (by omega)) (va_cwS 2 hts gX4_apart_X4_needIndex rfl rfl rfl (by decide +kernel) ⟨Nat.le_of_ble_eq_true rfl, Nat.le_of_ble_eq_true rfl⟩) hP hD hA hS hK rfl (by decide) rfl (by decide) (by decide) rfl (by decide) rfl rfl rfl hl.1 (Nat.le_of_ble_eq_true rfl) dX4_apart_13 ⟨Nat.le_of_ble_eq_true rfl, Nat.le_of_ble_eq_true rfl⟩ (fun H locs hP hD hS => ?_)
      exact absurd ⟨hk5, hk13⟩ hbad
    · skip
      exact kTS (As := [.int sj, .int (nI nh)]) (rest := []) (WC := []) (W2c := fun (_ : Unit) => []) (WR := [(ob, .inr (4, [.ref ahl, .int (nI nh), .ref abl, .int (nI nb), .ref asr, .ref pb, .ref atr, .int (nI nt), .ref tb, .ref mt]))]) (WN := fun (_ : Unit) => [(ob, .inr (4, [.ref ahl, .int (nI nh), .ref abl, .int (nI nb), .ref asr, .ref pb, .ref atr, .int (nI nt), .ref tb, .ref mt]))]) (tyC := []) (isC := []) (isR := [0]) (isN := [0]) (its := []) ⟨hx, hb, hml, hown, hts⟩ (tX4_needIndex_e l dC dI sj nh hk13 (by omega)) hlt (va_cwS 2 hts gX4_apart_X4_needIndex rfl rfl rfl (by decide +kernel) ⟨Nat.le_of_ble_eq_true rfl, Nat.le_of_ble_eq_true rfl⟩) hP hD hA hS hK hT rfl (by decide) rfl (by decide) (by decide) (fun _ => rfl) (by decide) rfl rfl rfl hl.1 (Nat.le_of_ble_eq_true rfl) dX4_apart_13 ⟨Nat.le_of_ble_eq_true rfl, Nat.le_of_ble_eq_true rfl⟩ htab hlocks (fun _ => ()) (fun _ => rfl)
  · skip
    exact kTS (As := [.int si, .int (nI nh)]) (rest := []) (WC := []) (W2c := fun (_ : Unit) => []) (WR := [(ob, .inr (4, [.ref ahl, .int (nI nh), .ref abl, .int (nI nb), .ref asr, .ref pb, .ref atr, .int (nI nt), .ref tb, .ref mt]))]) (WN := fun (_ : Unit) => [(ob, .inr (4, [.ref ahl, .int (nI nh), .ref abl, .int (nI nb), .ref asr, .ref pb, .ref atr, .int (nI nt), .ref tb, .ref mt]))]) (tyC := []) (isC := []) (isR := [0]) (isN := [0]) (its := []) ⟨hx, hb, hml, hown, hts⟩ (tX4_needIndex_e l dC dI si nh hk5 (by omega)) hlt (va_cwS 2 hts gX4_apart_X4_needIndex rfl rfl rfl (by decide +kernel) ⟨Nat.le_of_ble_eq_true rfl, Nat.le_of_ble_eq_true rfl⟩) hP hD hA hS hK hT rfl (by decide) rfl (by decide) (by decide) (fun _ => rfl) (by decide) rfl rfl rfl hl.1 (Nat.le_of_ble_eq_true rfl) dX4_apart_5 ⟨Nat.le_of_ble_eq_true rfl, Nat.le_of_ble_eq_true rfl⟩ htab hlocks (fun _ => ()) (fun _ => rfl)

set_option maxHeartbeats 4000000 in
set_option maxRecDepth 100000 in
theorem tX4_box_e1 (l : Launch) (dC : Nat → ClassId) (dI : Nat → Nat → Nat) (ob ahl nh abl nb asr pb atr nt tb mt : Nat) (x0 y0 x1 y1 : Int64) (hn : nb = 16) : TMi l yX4_box wsX4_box { frames := 6, cells := 1, slots := 6, locals := 90 } [.ref ob, .long x0, .long y0, .long x1, .long y1] (dC, dI) [(ob, .inr (4, [.ref ahl, .int (nI nh), .ref abl, .int (nI nb), .ref asr, .ref pb, .ref atr, .int (nI nt), .ref tb, .ref mt]))] (fun (u : Unit) => [(ob, .inr (4, [.ref ahl, .int (nI nh), .ref abl, .int (nI nb), .ref asr, .ref pb, .ref atr, .int (nI nt), .ref tb, .ref mt]))]) [] "java/lang/IllegalStateException" := by
  intro hlt sz
  refine kOfX (cc := cX4_box) (maxL := 9) (ret := (some .int)) (by decide) rfl (Nat.le_of_ble_eq_true rfl) ?_
  intro p e s m below meth c hx hb hr hml hts hown hlocks htab hB ls hl
  obtain ⟨⟨hsz, hP, hK, hD0⟩, hT⟩ := hB
  subst hsz
  have hD := hD0.self (sz := s.heap.size)
  generalize hAe : va_A [(ob, .inr (4, [.ref ahl, .int (nI nh), .ref abl, .int (nI nb), .ref asr, .ref pb, .ref atr, .int (nI nt), .ref tb, .ref mt]))] s.heap.size = A at hD hT ⊢
  have hA : ∀ q : Nat, s.heap.size ≤ q → A q := fun q h => by rw [← hAe]; exact Or.inr h
  have hS : va_S A s.heap s.heap [] := va_S.rf
  have hl : lv_has ls 9 [(0, .ref ob), (1, .long x0), (3, .long y0), (5, .long x1), (7, .long y1)] := hl
  have hi4 : ∀ w ∈ u_ws RX4 TX4 10, w ∈ wsX4_box := by decide +kernel
  have f96 := hts (.fieldLink RX4 96 "SweptBoxes" "blockCount" "I") (by decide +kernel)
  refine lv_aload_n hx hb dX4_box_0 rfl (lv_at hl 0 rfl) ?_
  refine va_get (D := (dC, dI)) (ci := 4) (v := .int (nI nb)) (C := RX4) (T := TX4) (N := 10) hx hb hts hi4 hown hK hP 0 rfl rfl 3 (by decide) f96 (fun _ h9 => h9) rfl dX4_box_1 ?_
  refine lv_bipush (v := (nI 16)) hx hb dX4_box_4 (by decide) ?_
  refine lv_icmp_lt (tgt := 19) hx hb dX4_box_6 (by decide) (fun c6 => ?_) (fun c6 => ?_)
  · rw [nI_ltI (by omega) (by omega)] at c6
    exfalso; omega
  · rw [nI_ltI (by omega) (by omega), Nat.not_lt] at c6
    exact kThrow (u := ()) (is := 99) (rest := []) hx hb hlt hown (by decide +kernel) (by decide +kernel) (by decide +kernel) (hts (.classLink RX4 55 "java/lang/IllegalStateException") (by decide +kernel)) (hts (.initialized "java/lang/IllegalStateException") (by decide +kernel)) (List.mem_of_getElem? (i := 2) rfl) (fun w h => hts w (xin_X4_box_59 w h)) xbad_59 xgood_59 hT hS (hl.1.trans hml.symm) dX4_box_9 dX4_box_12 dX4_box_13 dX4_box_15 dX4_box_18 htab (Nat.lt_of_lt_of_le (by decide) (Nat.le_of_ble_eq_true rfl : 6 ≤ _)) (Nat.le_of_ble_eq_true rfl) (Nat.le_of_ble_eq_true rfl) (Nat.le_of_ble_eq_true rfl) hlocks hP hK hD

set_option maxHeartbeats 4000000 in
set_option maxRecDepth 100000 in
theorem tX4_box_e2 (l : Launch) (dC : Nat → ClassId) (dI : Nat → Nat → Nat) (ob ahl nh abl nb asr pb atr nt tb mt : Nat) (x0 y0 x1 y1 : Int64) (hn : nb < 16) (hbad : ¬ ((-10000 ≤ x0 ∧ x0 ≤ 10000) ∧ (-10000 ≤ y0 ∧ y0 ≤ 10000) ∧ (-10000 ≤ x1 ∧ x1 ≤ 10000) ∧ (-10000 ≤ y1 ∧ y1 ≤ 10000) ∧ x0 ≤ x1 ∧ y0 ≤ y1)) : TMi l yX4_box wsX4_box { frames := 7, cells := 1, slots := 6, locals := 113 } [.ref ob, .long x0, .long y0, .long x1, .long y1] (dC, dI) [(ob, .inr (4, [.ref ahl, .int (nI nh), .ref abl, .int (nI nb), .ref asr, .ref pb, .ref atr, .int (nI nt), .ref tb, .ref mt]))] (fun (u : Unit) => [(ob, .inr (4, [.ref ahl, .int (nI nh), .ref abl, .int (nI nb), .ref asr, .ref pb, .ref atr, .int (nI nt), .ref tb, .ref mt]))]) [] "java/lang/IllegalArgumentException" := by
  intro hlt sz
  refine kOfX (cc := cX4_box) (maxL := 9) (ret := (some .int)) (by decide) rfl (Nat.le_of_ble_eq_true rfl) ?_
  intro p e s m below meth c hx hb hr hml hts hown hlocks htab hB ls hl
  obtain ⟨⟨hsz, hP, hK, hD0⟩, hT⟩ := hB
  subst hsz
  have hD := hD0.self (sz := s.heap.size)
  generalize hAe : va_A [(ob, .inr (4, [.ref ahl, .int (nI nh), .ref abl, .int (nI nb), .ref asr, .ref pb, .ref atr, .int (nI nt), .ref tb, .ref mt]))] s.heap.size = A at hD hT ⊢
  have hA : ∀ q : Nat, s.heap.size ≤ q → A q := fun q h => by rw [← hAe]; exact Or.inr h
  have hS : va_S A s.heap s.heap [] := va_S.rf
  have hl : lv_has ls 9 [(0, .ref ob), (1, .long x0), (3, .long y0), (5, .long x1), (7, .long y1)] := hl
  have hi4 : ∀ w ∈ u_ws RX4 TX4 10, w ∈ wsX4_box := by decide +kernel
  have f96 := hts (.fieldLink RX4 96 "SweptBoxes" "blockCount" "I") (by decide +kernel)
  refine lv_aload_n hx hb dX4_box_0 rfl (lv_at hl 0 rfl) ?_
  refine va_get (D := (dC, dI)) (ci := 4) (v := .int (nI nb)) (C := RX4) (T := TX4) (N := 10) hx hb hts hi4 hown hK hP 0 rfl rfl 3 (by decide) f96 (fun _ h9 => h9) rfl dX4_box_1 ?_
  refine lv_bipush (v := (nI 16)) hx hb dX4_box_4 (by decide) ?_
  refine lv_icmp_lt (tgt := 19) hx hb dX4_box_6 (by decide) (fun c6 => ?_) (fun c6 => ?_)
  · rw [nI_ltI (by omega) (by omega)] at c6
    refine lv_lload_n hx hb dX4_box_19 rfl (lv_at hl 1 rfl) ?_
    refine lv_lload_n hx hb dX4_box_20 rfl (lv_at hl 2 rfl) ?_
    by_cases hk21 : (-10000 ≤ x0 ∧ x0 ≤ 10000) ∧ (-10000 ≤ y0 ∧ y0 ≤ 10000)
    · skip
      refine kmSv (As := [.long x0, .long y0]) (rest := []) (WC := []) (W2 := []) (WR := [(ob, .inr (4, [.ref ahl, .int (nI nh), .ref abl, .int (nI nb), .ref asr, .ref pb, .ref atr, .int (nI nt), .ref tb, .ref mt]))]) (WN := [(ob, .inr (4, [.ref ahl, .int (nI nh), .ref abl, .int (nI nb), .ref asr, .ref pb, .ref atr, .int (nI nt), .ref tb, .ref mt]))]) (tyC := []) (isC := []) (isR := [0]) (isN := [0]) (its := []) ⟨hx, hb, hml, hown, hts⟩ (tX4_needInRange_o l dC dI x0 y0 hk21) (va_cwS 2 hts gX4_box_X4_needInRange rfl rfl rfl (by decide +kernel) ⟨Nat.le_of_ble_eq_true rfl, Nat.le_of_ble_eq_true rfl⟩) hP hD hA hS hK rfl (by decide) rfl (by decide) (by decide) rfl (by decide) rfl rfl rfl hl.1 (Nat.le_of_ble_eq_true rfl) dX4_box_21 ⟨Nat.le_of_ble_eq_true rfl, Nat.le_of_ble_eq_true rfl⟩ (fun H locs hP hD hS => ?_)
      refine lv_lload hx hb dX4_box_24 (lv_at hl 3 rfl) ?_
      refine lv_lload hx hb dX4_box_26 (lv_at hl 4 rfl) ?_
      by_cases hk28 : (-10000 ≤ x1 ∧ x1 ≤ 10000) ∧ (-10000 ≤ y1 ∧ y1 ≤ 10000)
      · skip
        refine kmSv (As := [.long x1, .long y1]) (rest := []) (WC := []) (W2 := []) (WR := [(ob, .inr (4, [.ref ahl, .int (nI nh), .ref abl, .int (nI nb), .ref asr, .ref pb, .ref atr, .int (nI nt), .ref tb, .ref mt]))]) (WN := [(ob, .inr (4, [.ref ahl, .int (nI nh), .ref abl, .int (nI nb), .ref asr, .ref pb, .ref atr, .int (nI nt), .ref tb, .ref mt]))]) (tyC := []) (isC := []) (isR := [0]) (isN := [0]) (its := []) ⟨hx, hb, hml, hown, hts⟩ (tX4_needInRange_o l dC dI x1 y1 hk28) (va_cwS 2 hts gX4_box_X4_needInRange rfl rfl rfl (by decide +kernel) ⟨Nat.le_of_ble_eq_true rfl, Nat.le_of_ble_eq_true rfl⟩) hP hD hA hS hK rfl (by decide) rfl (by decide) (by decide) rfl (by decide) rfl rfl rfl hl.1 (Nat.le_of_ble_eq_true rfl) dX4_box_28 ⟨Nat.le_of_ble_eq_true rfl, Nat.le_of_ble_eq_true rfl⟩ (fun H locs hP hD hS => ?_)
        refine lv_lload_n hx hb dX4_box_31 rfl (lv_at hl 1 rfl) ?_
        refine lv_lload hx hb dX4_box_32 (lv_at hl 3 rfl) ?_
        refine W.lcmp hx hb dX4_box_34 ?_
        refine lv_if_gt (tgt := 45) hx hb dX4_box_35 (by decide) (fun c35 => ?_) (fun c35 => ?_)
        · rw [lg_cmp_gt] at c35
          exact kThrow (u := ()) (is := 103) (rest := []) hx hb hlt hown (by decide +kernel) (by decide +kernel) (by decide +kernel) (hts (.classLink RX4 101 "java/lang/IllegalArgumentException") (by decide +kernel)) (hts (.initialized "java/lang/IllegalArgumentException") (by decide +kernel)) (List.mem_of_getElem? (i := 3) rfl) (fun w h => hts w (xin_X4_box_105 w h)) xbad_105 xgood_105 hT hS (hl.1.trans hml.symm) dX4_box_45 dX4_box_48 dX4_box_49 dX4_box_51 dX4_box_54 htab (Nat.lt_of_lt_of_le (by decide) (Nat.le_of_ble_eq_true rfl : 6 ≤ _)) (Nat.le_of_ble_eq_true rfl) (Nat.le_of_ble_eq_true rfl) (Nat.le_of_ble_eq_true rfl) hlocks hP hK hD
        · rw [lg_cmp_gt, Int64.not_lt] at c35
          refine lv_lload_n hx hb dX4_box_38 rfl (lv_at hl 2 rfl) ?_
          refine lv_lload hx hb dX4_box_39 (lv_at hl 4 rfl) ?_
          refine W.lcmp hx hb dX4_box_41 ?_
          refine lv_if_le (tgt := 55) hx hb dX4_box_42 (by decide) (fun c42 => ?_) (fun c42 => ?_)
          · rw [lg_cmp_le] at c42
            exact absurd ⟨hk21.1, hk21.2, hk28.1, hk28.2, c35, c42⟩ hbad
          · rw [lg_cmp_le, Int64.not_le] at c42
            exact kThrow (u := ()) (is := 103) (rest := []) hx hb hlt hown (by decide +kernel) (by decide +kernel) (by decide +kernel) (hts (.classLink RX4 101 "java/lang/IllegalArgumentException") (by decide +kernel)) (hts (.initialized "java/lang/IllegalArgumentException") (by decide +kernel)) (List.mem_of_getElem? (i := 3) rfl) (fun w h => hts w (xin_X4_box_105 w h)) xbad_105 xgood_105 hT hS (hl.1.trans hml.symm) dX4_box_45 dX4_box_48 dX4_box_49 dX4_box_51 dX4_box_54 htab (Nat.lt_of_lt_of_le (by decide) (Nat.le_of_ble_eq_true rfl : 6 ≤ _)) (Nat.le_of_ble_eq_true rfl) (Nat.le_of_ble_eq_true rfl) (Nat.le_of_ble_eq_true rfl) hlocks hP hK hD
      · skip
        exact kTS (As := [.long x1, .long y1]) (rest := []) (WC := []) (W2c := fun (_ : Unit) => []) (WR := [(ob, .inr (4, [.ref ahl, .int (nI nh), .ref abl, .int (nI nb), .ref asr, .ref pb, .ref atr, .int (nI nt), .ref tb, .ref mt]))]) (WN := fun (_ : Unit) => [(ob, .inr (4, [.ref ahl, .int (nI nh), .ref abl, .int (nI nb), .ref asr, .ref pb, .ref atr, .int (nI nt), .ref tb, .ref mt]))]) (tyC := []) (isC := []) (isR := [0]) (isN := [0]) (its := []) ⟨hx, hb, hml, hown, hts⟩ (tX4_needInRange_e l dC dI x1 y1 hk28) hlt (va_cwS 2 hts gX4_box_X4_needInRange rfl rfl rfl (by decide +kernel) ⟨Nat.le_of_ble_eq_true rfl, Nat.le_of_ble_eq_true rfl⟩) hP hD hA hS hK hT rfl (by decide) rfl (by decide) (by decide) (fun _ => rfl) (by decide) rfl rfl rfl hl.1 (Nat.le_of_ble_eq_true rfl) dX4_box_28 ⟨Nat.le_of_ble_eq_true rfl, Nat.le_of_ble_eq_true rfl⟩ htab hlocks (fun _ => ()) (fun _ => rfl)
    · skip
      exact kTS (As := [.long x0, .long y0]) (rest := []) (WC := []) (W2c := fun (_ : Unit) => []) (WR := [(ob, .inr (4, [.ref ahl, .int (nI nh), .ref abl, .int (nI nb), .ref asr, .ref pb, .ref atr, .int (nI nt), .ref tb, .ref mt]))]) (WN := fun (_ : Unit) => [(ob, .inr (4, [.ref ahl, .int (nI nh), .ref abl, .int (nI nb), .ref asr, .ref pb, .ref atr, .int (nI nt), .ref tb, .ref mt]))]) (tyC := []) (isC := []) (isR := [0]) (isN := [0]) (its := []) ⟨hx, hb, hml, hown, hts⟩ (tX4_needInRange_e l dC dI x0 y0 hk21) hlt (va_cwS 2 hts gX4_box_X4_needInRange rfl rfl rfl (by decide +kernel) ⟨Nat.le_of_ble_eq_true rfl, Nat.le_of_ble_eq_true rfl⟩) hP hD hA hS hK hT rfl (by decide) rfl (by decide) (by decide) (fun _ => rfl) (by decide) rfl rfl rfl hl.1 (Nat.le_of_ble_eq_true rfl) dX4_box_21 ⟨Nat.le_of_ble_eq_true rfl, Nat.le_of_ble_eq_true rfl⟩ htab hlocks (fun _ => ()) (fun _ => rfl)
  · rw [nI_ltI (by omega) (by omega), Nat.not_lt] at c6
    exfalso; omega

set_option maxHeartbeats 4000000 in
set_option maxRecDepth 100000 in
theorem tX4_move_e1 (l : Launch) (dC : Nat → ClassId) (dI : Nat → Nat → Nat) (ob ahl nh abl nb asr pb atr nt tb mt : Nat) (si : Int32) (dx dy : Int64) (hbad : ¬ (0 ≤ si ∧ si < nI nb)) (hn : nb ≤ 16) : TMi l yX4_move wsX4_move { frames := 7, cells := 1, slots := 6, locals := 111 } [.ref ob, .int si, .long dx, .long dy] (dC, dI) [(ob, .inr (4, [.ref ahl, .int (nI nh), .ref abl, .int (nI nb), .ref asr, .ref pb, .ref atr, .int (nI nt), .ref tb, .ref mt]))] (fun (u : Unit) => [(ob, .inr (4, [.ref ahl, .int (nI nh), .ref abl, .int (nI nb), .ref asr, .ref pb, .ref atr, .int (nI nt), .ref tb, .ref mt]))]) [] "java/lang/IndexOutOfBoundsException" := by
  intro hlt sz
  refine kOfX (cc := cX4_move) (maxL := 8) (ret := (some .boolean)) (by decide) rfl (Nat.le_of_ble_eq_true rfl) ?_
  intro p e s m below meth c hx hb hr hml hts hown hlocks htab hB ls hl
  obtain ⟨⟨hsz, hP, hK, hD0⟩, hT⟩ := hB
  subst hsz
  have hD := hD0.self (sz := s.heap.size)
  generalize hAe : va_A [(ob, .inr (4, [.ref ahl, .int (nI nh), .ref abl, .int (nI nb), .ref asr, .ref pb, .ref atr, .int (nI nt), .ref tb, .ref mt]))] s.heap.size = A at hD hT ⊢
  have hA : ∀ q : Nat, s.heap.size ≤ q → A q := fun q h => by rw [← hAe]; exact Or.inr h
  have hS : va_S A s.heap s.heap [] := va_S.rf
  have hl : lv_has ls 8 [(0, .ref ob), (1, .int si), (2, .long dx), (4, .long dy)] := hl
  have hi4 : ∀ w ∈ u_ws RX4 TX4 10, w ∈ wsX4_move := by decide +kernel
  have f96 := hts (.fieldLink RX4 96 "SweptBoxes" "blockCount" "I") (by decide +kernel)
  refine lv_iload_n hx hb dX4_move_0 rfl (lv_at hl 1 rfl) ?_
  refine lv_aload_n hx hb dX4_move_1 rfl (lv_at hl 0 rfl) ?_
  refine va_get (D := (dC, dI)) (ci := 4) (v := .int (nI nb)) (C := RX4) (T := TX4) (N := 10) hx hb hts hi4 hown hK hP 0 rfl rfl 3 (by decide) f96 (fun _ h9 => h9) rfl dX4_move_2 ?_
  exact kTS (As := [.int si, .int (nI nb)]) (rest := []) (WC := []) (W2c := fun (_ : Unit) => []) (WR := [(ob, .inr (4, [.ref ahl, .int (nI nh), .ref abl, .int (nI nb), .ref asr, .ref pb, .ref atr, .int (nI nt), .ref tb, .ref mt]))]) (WN := fun (_ : Unit) => [(ob, .inr (4, [.ref ahl, .int (nI nh), .ref abl, .int (nI nb), .ref asr, .ref pb, .ref atr, .int (nI nt), .ref tb, .ref mt]))]) (tyC := []) (isC := []) (isR := [0]) (isN := [0]) (its := []) ⟨hx, hb, hml, hown, hts⟩ (tX4_needIndex_e l dC dI si nb hbad (by omega)) hlt (va_cwS 2 hts gX4_move_X4_needIndex rfl rfl rfl (by decide +kernel) ⟨Nat.le_of_ble_eq_true rfl, Nat.le_of_ble_eq_true rfl⟩) hP hD hA hS hK hT rfl (by decide) rfl (by decide) (by decide) (fun _ => rfl) (by decide) rfl rfl rfl hl.1 (Nat.le_of_ble_eq_true rfl) dX4_move_5 ⟨Nat.le_of_ble_eq_true rfl, Nat.le_of_ble_eq_true rfl⟩ htab hlocks (fun _ => ()) (fun _ => rfl)

set_option maxHeartbeats 4000000 in
set_option maxRecDepth 100000 in
theorem tX4_move_e2 (l : Launch) (dC : Nat → ClassId) (dI : Nat → Nat → Nat) (ob ahl nh abl nb asr pb atr nt tb mt : Nat) (si : Int32) (dx dy : Int64) (hs : 0 ≤ si ∧ si < nI nb) (hn : nb ≤ 16) (hbad : ¬ ((-10000 ≤ dx ∧ dx ≤ 10000) ∧ (-10000 ≤ dy ∧ dy ≤ 10000))) : TMi l yX4_move wsX4_move { frames := 7, cells := 1, slots := 6, locals := 113 } [.ref ob, .int si, .long dx, .long dy] (dC, dI) [(ob, .inr (4, [.ref ahl, .int (nI nh), .ref abl, .int (nI nb), .ref asr, .ref pb, .ref atr, .int (nI nt), .ref tb, .ref mt]))] (fun (u : Unit) => [(ob, .inr (4, [.ref ahl, .int (nI nh), .ref abl, .int (nI nb), .ref asr, .ref pb, .ref atr, .int (nI nt), .ref tb, .ref mt]))]) [] "java/lang/IllegalArgumentException" := by
  intro hlt sz
  refine kOfX (cc := cX4_move) (maxL := 8) (ret := (some .boolean)) (by decide) rfl (Nat.le_of_ble_eq_true rfl) ?_
  intro p e s m below meth c hx hb hr hml hts hown hlocks htab hB ls hl
  obtain ⟨⟨hsz, hP, hK, hD0⟩, hT⟩ := hB
  subst hsz
  have hD := hD0.self (sz := s.heap.size)
  generalize hAe : va_A [(ob, .inr (4, [.ref ahl, .int (nI nh), .ref abl, .int (nI nb), .ref asr, .ref pb, .ref atr, .int (nI nt), .ref tb, .ref mt]))] s.heap.size = A at hD hT ⊢
  have hA : ∀ q : Nat, s.heap.size ≤ q → A q := fun q h => by rw [← hAe]; exact Or.inr h
  have hS : va_S A s.heap s.heap [] := va_S.rf
  have hl : lv_has ls 8 [(0, .ref ob), (1, .int si), (2, .long dx), (4, .long dy)] := hl
  have hi4 : ∀ w ∈ u_ws RX4 TX4 10, w ∈ wsX4_move := by decide +kernel
  have f96 := hts (.fieldLink RX4 96 "SweptBoxes" "blockCount" "I") (by decide +kernel)
  refine lv_iload_n hx hb dX4_move_0 rfl (lv_at hl 1 rfl) ?_
  refine lv_aload_n hx hb dX4_move_1 rfl (lv_at hl 0 rfl) ?_
  refine va_get (D := (dC, dI)) (ci := 4) (v := .int (nI nb)) (C := RX4) (T := TX4) (N := 10) hx hb hts hi4 hown hK hP 0 rfl rfl 3 (by decide) f96 (fun _ h9 => h9) rfl dX4_move_2 ?_
  refine kmSv (As := [.int si, .int (nI nb)]) (rest := []) (WC := []) (W2 := []) (WR := [(ob, .inr (4, [.ref ahl, .int (nI nh), .ref abl, .int (nI nb), .ref asr, .ref pb, .ref atr, .int (nI nt), .ref tb, .ref mt]))]) (WN := [(ob, .inr (4, [.ref ahl, .int (nI nh), .ref abl, .int (nI nb), .ref asr, .ref pb, .ref atr, .int (nI nt), .ref tb, .ref mt]))]) (tyC := []) (isC := []) (isR := [0]) (isN := [0]) (its := []) ⟨hx, hb, hml, hown, hts⟩ (tX4_needIndex_r l dC dI si nb hs (by omega)) (va_cwS 2 hts gX4_move_X4_needIndex rfl rfl rfl (by decide +kernel) ⟨Nat.le_of_ble_eq_true rfl, Nat.le_of_ble_eq_true rfl⟩) hP hD hA hS hK rfl (by decide) rfl (by decide) (by decide) rfl (by decide) rfl rfl rfl hl.1 (Nat.le_of_ble_eq_true rfl) dX4_move_5 ⟨Nat.le_of_ble_eq_true rfl, Nat.le_of_ble_eq_true rfl⟩ (fun H locs hP hD hS => ?_)
  refine lv_lload_n hx hb dX4_move_8 rfl (lv_at hl 2 rfl) ?_
  refine lv_lload hx hb dX4_move_9 (lv_at hl 3 rfl) ?_
  exact kTS (As := [.long dx, .long dy]) (rest := []) (WC := []) (W2c := fun (_ : Unit) => []) (WR := [(ob, .inr (4, [.ref ahl, .int (nI nh), .ref abl, .int (nI nb), .ref asr, .ref pb, .ref atr, .int (nI nt), .ref tb, .ref mt]))]) (WN := fun (_ : Unit) => [(ob, .inr (4, [.ref ahl, .int (nI nh), .ref abl, .int (nI nb), .ref asr, .ref pb, .ref atr, .int (nI nt), .ref tb, .ref mt]))]) (tyC := []) (isC := []) (isR := [0]) (isN := [0]) (its := []) ⟨hx, hb, hml, hown, hts⟩ (tX4_needInRange_e l dC dI dx dy hbad) hlt (va_cwS 2 hts gX4_move_X4_needInRange rfl rfl rfl (by decide +kernel) ⟨Nat.le_of_ble_eq_true rfl, Nat.le_of_ble_eq_true rfl⟩) hP hD hA hS hK hT rfl (by decide) rfl (by decide) (by decide) (fun _ => rfl) (by decide) rfl rfl rfl hl.1 (Nat.le_of_ble_eq_true rfl) dX4_move_11 ⟨Nat.le_of_ble_eq_true rfl, Nat.le_of_ble_eq_true rfl⟩ htab hlocks (fun _ => ()) (fun _ => rfl)

set_option maxHeartbeats 4000000 in
set_option maxRecDepth 100000 in
theorem tX4_touch_e (l : Launch) (dC : Nat → ClassId) (dI : Nat → Nat → Nat) (ob ahl nh abl nb asr pb atr nt tb mt : Nat) (a b pt : Int32) (hbad : ¬ ((0 ≤ a ∧ a < nI nb) ∧ (0 ≤ b ∧ b < nI nb) ∧ (0 ≤ pt ∧ pt < nI 2))) (hn : nb ≤ 16) : TMl l yX4_touch wsX4_touch { frames := 8, cells := 1, slots := 6, locals := 134 } [.ref ob, .int a, .int b, .int pt] (dC, dI) [(ob, .inr (4, [.ref ahl, .int (nI nh), .ref abl, .int (nI nb), .ref asr, .ref pb, .ref atr, .int (nI nt), .ref tb, .ref mt]))] (fun (u : Unit) => [(ob, .inr (4, [.ref ahl, .int (nI nh), .ref abl, .int (nI nb), .ref asr, .ref pb, .ref atr, .int (nI nt), .ref tb, .ref mt]))]) [] "java/lang/IndexOutOfBoundsException" := by
  intro hlt sz
  refine kOfX (cc := cX4_touch) (maxL := 4) (ret := (some .long)) (by decide) rfl (Nat.le_of_ble_eq_true rfl) ?_
  intro p e s m below meth c hx hb hr hml hts hown hlocks htab hB ls hl
  obtain ⟨⟨hsz, hP, hK, hD0⟩, hT⟩ := hB
  subst hsz
  have hD := hD0.self (sz := s.heap.size)
  generalize hAe : va_A [(ob, .inr (4, [.ref ahl, .int (nI nh), .ref abl, .int (nI nb), .ref asr, .ref pb, .ref atr, .int (nI nt), .ref tb, .ref mt]))] s.heap.size = A at hD hT ⊢
  have hA : ∀ q : Nat, s.heap.size ≤ q → A q := fun q h => by rw [← hAe]; exact Or.inr h
  have hS : va_S A s.heap s.heap [] := va_S.rf
  have hl : lv_has ls 4 [(0, .ref ob), (1, .int a), (2, .int b), (3, .int pt)] := hl
  refine lv_aload_n hx hb dX4_touch_0 rfl (lv_at hl 0 rfl) ?_
  refine lv_iload_n hx hb dX4_touch_1 rfl (lv_at hl 1 rfl) ?_
  refine lv_iload_n hx hb dX4_touch_2 rfl (lv_at hl 2 rfl) ?_
  refine lv_iload_n hx hb dX4_touch_3 rfl (lv_at hl 3 rfl) ?_
  exact kTV (q0 := 0) (ci := 4) (As := [.int a, .int b, .int pt]) (rest := []) (WC := [(ob, .inr (4, [.ref ahl, .int (nI nh), .ref abl, .int (nI nb), .ref asr, .ref pb, .ref atr, .int (nI nt), .ref tb, .ref mt]))]) (W2c := fun (_ : Unit) => [(ob, .inr (4, [.ref ahl, .int (nI nh), .ref abl, .int (nI nb), .ref asr, .ref pb, .ref atr, .int (nI nt), .ref tb, .ref mt]))]) (WR := []) (WN := fun (_ : Unit) => [(ob, .inr (4, [.ref ahl, .int (nI nh), .ref abl, .int (nI nb), .ref asr, .ref pb, .ref atr, .int (nI nt), .ref tb, .ref mt]))]) (tyC := []) (isC := [0]) (isR := []) (isN := [0]) (its := []) ⟨hx, hb, hml, hown, hts⟩ (tX4_needMeeting_e l dC dI ob ahl nh abl nb asr pb atr nt tb mt a b pt hbad (by omega)) hlt (cwV 3 hts gX4_touch_X4_needMeeting rfl rfl rfl (by decide +kernel) ⟨Nat.le_of_ble_eq_true rfl, Nat.le_of_ble_eq_true rfl⟩) hP hD hA hS hK hT rfl (by decide) rfl (by decide) (by decide) (fun _ => rfl) (by decide) rfl rfl rfl rfl rfl hl.1 (Nat.le_of_ble_eq_true rfl) dX4_touch_4 ⟨Nat.le_of_ble_eq_true rfl, Nat.le_of_ble_eq_true rfl⟩ htab hlocks (fun _ => ()) (fun _ => rfl)

set_option maxHeartbeats 4000000 in
set_option maxRecDepth 100000 in
theorem tX4_overlap_e (l : Launch) (dC : Nat → ClassId) (dI : Nat → Nat → Nat) (ob ahl nh abl nb asr pb atr nt tb mt : Nat) (a b pt : Int32) (hbad : ¬ ((0 ≤ a ∧ a < nI nb) ∧ (0 ≤ b ∧ b < nI nb) ∧ (0 ≤ pt ∧ pt < nI 2))) (hn : nb ≤ 16) : TMl l yX4_overlap wsX4_overlap { frames := 8, cells := 1, slots := 6, locals := 134 } [.ref ob, .int a, .int b, .int pt] (dC, dI) [(ob, .inr (4, [.ref ahl, .int (nI nh), .ref abl, .int (nI nb), .ref asr, .ref pb, .ref atr, .int (nI nt), .ref tb, .ref mt]))] (fun (u : Unit) => [(ob, .inr (4, [.ref ahl, .int (nI nh), .ref abl, .int (nI nb), .ref asr, .ref pb, .ref atr, .int (nI nt), .ref tb, .ref mt]))]) [] "java/lang/IndexOutOfBoundsException" := by
  intro hlt sz
  refine kOfX (cc := cX4_overlap) (maxL := 4) (ret := (some .long)) (by decide) rfl (Nat.le_of_ble_eq_true rfl) ?_
  intro p e s m below meth c hx hb hr hml hts hown hlocks htab hB ls hl
  obtain ⟨⟨hsz, hP, hK, hD0⟩, hT⟩ := hB
  subst hsz
  have hD := hD0.self (sz := s.heap.size)
  generalize hAe : va_A [(ob, .inr (4, [.ref ahl, .int (nI nh), .ref abl, .int (nI nb), .ref asr, .ref pb, .ref atr, .int (nI nt), .ref tb, .ref mt]))] s.heap.size = A at hD hT ⊢
  have hA : ∀ q : Nat, s.heap.size ≤ q → A q := fun q h => by rw [← hAe]; exact Or.inr h
  have hS : va_S A s.heap s.heap [] := va_S.rf
  have hl : lv_has ls 4 [(0, .ref ob), (1, .int a), (2, .int b), (3, .int pt)] := hl
  refine lv_aload_n hx hb dX4_overlap_0 rfl (lv_at hl 0 rfl) ?_
  refine lv_iload_n hx hb dX4_overlap_1 rfl (lv_at hl 1 rfl) ?_
  refine lv_iload_n hx hb dX4_overlap_2 rfl (lv_at hl 2 rfl) ?_
  refine lv_iload_n hx hb dX4_overlap_3 rfl (lv_at hl 3 rfl) ?_
  exact kTV (q0 := 0) (ci := 4) (As := [.int a, .int b, .int pt]) (rest := []) (WC := [(ob, .inr (4, [.ref ahl, .int (nI nh), .ref abl, .int (nI nb), .ref asr, .ref pb, .ref atr, .int (nI nt), .ref tb, .ref mt]))]) (W2c := fun (_ : Unit) => [(ob, .inr (4, [.ref ahl, .int (nI nh), .ref abl, .int (nI nb), .ref asr, .ref pb, .ref atr, .int (nI nt), .ref tb, .ref mt]))]) (WR := []) (WN := fun (_ : Unit) => [(ob, .inr (4, [.ref ahl, .int (nI nh), .ref abl, .int (nI nb), .ref asr, .ref pb, .ref atr, .int (nI nt), .ref tb, .ref mt]))]) (tyC := []) (isC := [0]) (isR := []) (isN := [0]) (its := []) ⟨hx, hb, hml, hown, hts⟩ (tX4_needMeeting_e l dC dI ob ahl nh abl nb asr pb atr nt tb mt a b pt hbad (by omega)) hlt (cwV 3 hts gX4_overlap_X4_needMeeting rfl rfl rfl (by decide +kernel) ⟨Nat.le_of_ble_eq_true rfl, Nat.le_of_ble_eq_true rfl⟩) hP hD hA hS hK hT rfl (by decide) rfl (by decide) (by decide) (fun _ => rfl) (by decide) rfl rfl rfl rfl rfl hl.1 (Nat.le_of_ble_eq_true rfl) dX4_overlap_4 ⟨Nat.le_of_ble_eq_true rfl, Nat.le_of_ble_eq_true rfl⟩ htab hlocks (fun _ => ()) (fun _ => rfl)
