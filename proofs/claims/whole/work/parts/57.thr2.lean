theorem sw_out {a b : Int32} {n : Int} (hb : b.toInt = n) (h : ¬ (0 ≤ a ∧ a ≤ b)) : a.toInt < 0 ∨ n < a.toInt := by
  rw [Int32.le_iff_toInt_le, Int32.le_iff_toInt_le, hb, show (0 : Int32).toInt = 0 from by decide] at h
  omega
set_option maxHeartbeats 4000000 in
set_option maxRecDepth 100000 in
theorem tX4_tile_e1 (l : Launch) (dC : Nat → ClassId) (dI : Nat → Nat → Nat) (ob ahl nh abl nb asr pb atr nt tb mt : Nat) (si sj : Int32) (b : Bool) (hbad : ¬ ((0 ≤ si ∧ si < nI 24) ∧ (0 ≤ sj ∧ sj < nI 24))) : TMi l yX4_tile wsX4_tile { frames := 7, cells := 1, slots := 6, locals := 111 } [.ref ob, .int si, .int sj, .int (bI b)] (dC, dI) [(ob, .inr (4, [.ref ahl, .int (nI nh), .ref abl, .int (nI nb), .ref asr, .ref pb, .ref atr, .int (nI nt), .ref tb, .ref mt]))] (fun (u : Unit) => [(ob, .inr (4, [.ref ahl, .int (nI nh), .ref abl, .int (nI nb), .ref asr, .ref pb, .ref atr, .int (nI nt), .ref tb, .ref mt]))]) [] "java/lang/IndexOutOfBoundsException" := by
  intro hlt sz
  refine kOfX (cc := cX4_tile) (maxL := 5) (ret := (some .boolean)) (by decide) rfl (Nat.le_of_ble_eq_true rfl) ?_
  intro p e s m below meth c hx hb hr hml hts hown hlocks htab hB ls hl
  obtain ⟨⟨hsz, hP, hK, hD0⟩, hT⟩ := hB
  subst hsz
  have hD := hD0.self (sz := s.heap.size)
  generalize hAe : va_A [(ob, .inr (4, [.ref ahl, .int (nI nh), .ref abl, .int (nI nb), .ref asr, .ref pb, .ref atr, .int (nI nt), .ref tb, .ref mt]))] s.heap.size = A at hD hT ⊢
  have hA : ∀ q : Nat, s.heap.size ≤ q → A q := fun q h => by rw [← hAe]; exact Or.inr h
  have hS : va_S A s.heap s.heap [] := va_S.rf
  have hl : lv_has ls 5 [(0, .ref ob), (1, .int si), (2, .int sj), (3, .int (bI b))] := hl
  refine lv_iload_n hx hb dX4_tile_0 rfl (lv_at hl 1 rfl) ?_
  refine lv_bipush (v := (nI 24)) hx hb dX4_tile_1 (by decide) ?_
  by_cases hk3 : 0 ≤ si ∧ si < nI 24
  · skip
    refine kmSv (As := [.int si, .int (nI 24)]) (rest := []) (WC := []) (W2 := []) (WR := [(ob, .inr (4, [.ref ahl, .int (nI nh), .ref abl, .int (nI nb), .ref asr, .ref pb, .ref atr, .int (nI nt), .ref tb, .ref mt]))]) (WN := [(ob, .inr (4, [.ref ahl, .int (nI nh), .ref abl, .int (nI nb), .ref asr, .ref pb, .ref atr, .int (nI nt), .ref tb, .ref mt]))]) (tyC := []) (isC := []) (isR := [0]) (isN := [0]) (its := []) ⟨hx, hb, hml, hown, hts⟩ (tX4_needIndex_r l dC dI si 24 hk3 (by omega)) (va_cwS 2 hts gX4_tile_X4_needIndex rfl rfl rfl (by decide +kernel) ⟨Nat.le_of_ble_eq_true rfl, Nat.le_of_ble_eq_true rfl⟩) hP hD hA hS hK rfl (by decide) rfl (by decide) (by decide) rfl (by decide) rfl rfl rfl hl.1 (Nat.le_of_ble_eq_true rfl) dX4_tile_3 ⟨Nat.le_of_ble_eq_true rfl, Nat.le_of_ble_eq_true rfl⟩ (fun H locs hP hD hS => ?_)
    refine lv_iload_n hx hb dX4_tile_6 rfl (lv_at hl 2 rfl) ?_
    refine lv_bipush (v := (nI 24)) hx hb dX4_tile_7 (by decide) ?_
    by_cases hk9 : 0 ≤ sj ∧ sj < nI 24
    · skip
      refine kmSv (As := [.int sj, .int (nI 24)]) (rest := []) (WC := []) (W2 := []) (WR := [(ob, .inr (4, [.ref ahl, .int (nI nh), .ref abl, .int (nI nb), .ref asr, .ref pb, .ref atr, .int (nI nt), .ref tb, .ref mt]))]) (WN := [(ob, .inr (4, [.ref ahl, .int (nI nh), .ref abl, .int (nI nb), .ref asr, .ref pb, .ref atr, .int (nI nt), .ref tb, .ref mt]))]) (tyC := []) (isC := []) (isR := [0]) (isN := [0]) (its := []) ⟨hx, hb, hml, hown, hts⟩ (tX4_needIndex_r l dC dI sj 24 hk9 (by omega)) (va_cwS 2 hts gX4_tile_X4_needIndex rfl rfl rfl (by decide +kernel) ⟨Nat.le_of_ble_eq_true rfl, Nat.le_of_ble_eq_true rfl⟩) hP hD hA hS hK rfl (by decide) rfl (by decide) (by decide) rfl (by decide) rfl rfl rfl hl.1 (Nat.le_of_ble_eq_true rfl) dX4_tile_9 ⟨Nat.le_of_ble_eq_true rfl, Nat.le_of_ble_eq_true rfl⟩ (fun H locs hP hD hS => ?_)
      exact absurd ⟨hk3, hk9⟩ hbad
    · skip
      exact kTS (As := [.int sj, .int (nI 24)]) (rest := []) (WC := []) (W2c := fun (_ : Unit) => []) (WR := [(ob, .inr (4, [.ref ahl, .int (nI nh), .ref abl, .int (nI nb), .ref asr, .ref pb, .ref atr, .int (nI nt), .ref tb, .ref mt]))]) (WN := fun (_ : Unit) => [(ob, .inr (4, [.ref ahl, .int (nI nh), .ref abl, .int (nI nb), .ref asr, .ref pb, .ref atr, .int (nI nt), .ref tb, .ref mt]))]) (tyC := []) (isC := []) (isR := [0]) (isN := [0]) (its := []) ⟨hx, hb, hml, hown, hts⟩ (tX4_needIndex_e l dC dI sj 24 hk9 (by omega)) hlt (va_cwS 2 hts gX4_tile_X4_needIndex rfl rfl rfl (by decide +kernel) ⟨Nat.le_of_ble_eq_true rfl, Nat.le_of_ble_eq_true rfl⟩) hP hD hA hS hK hT rfl (by decide) rfl (by decide) (by decide) (fun _ => rfl) (by decide) rfl rfl rfl hl.1 (Nat.le_of_ble_eq_true rfl) dX4_tile_9 ⟨Nat.le_of_ble_eq_true rfl, Nat.le_of_ble_eq_true rfl⟩ htab hlocks (fun _ => ()) (fun _ => rfl)
  · skip
    exact kTS (As := [.int si, .int (nI 24)]) (rest := []) (WC := []) (W2c := fun (_ : Unit) => []) (WR := [(ob, .inr (4, [.ref ahl, .int (nI nh), .ref abl, .int (nI nb), .ref asr, .ref pb, .ref atr, .int (nI nt), .ref tb, .ref mt]))]) (WN := fun (_ : Unit) => [(ob, .inr (4, [.ref ahl, .int (nI nh), .ref abl, .int (nI nb), .ref asr, .ref pb, .ref atr, .int (nI nt), .ref tb, .ref mt]))]) (tyC := []) (isC := []) (isR := [0]) (isN := [0]) (its := []) ⟨hx, hb, hml, hown, hts⟩ (tX4_needIndex_e l dC dI si 24 hk3 (by omega)) hlt (va_cwS 2 hts gX4_tile_X4_needIndex rfl rfl rfl (by decide +kernel) ⟨Nat.le_of_ble_eq_true rfl, Nat.le_of_ble_eq_true rfl⟩) hP hD hA hS hK hT rfl (by decide) rfl (by decide) (by decide) (fun _ => rfl) (by decide) rfl rfl rfl hl.1 (Nat.le_of_ble_eq_true rfl) dX4_tile_3 ⟨Nat.le_of_ble_eq_true rfl, Nat.le_of_ble_eq_true rfl⟩ htab hlocks (fun _ => ()) (fun _ => rfl)

set_option maxHeartbeats 4000000 in
set_option maxRecDepth 100000 in
theorem tX4_tile_e2 (l : Launch) (dC : Nat → ClassId) (dI : Nat → Nat → Nat) (ob ahl nh abl nb asr pb atr nt tb mt : Nat) (tx0 ty0 tx1 ty1 tdx tdy : Int64) (px0 py0 px1 py1 pdx pdy : Int64) (i j : Nat) (hi : i < 24) (hj : j < 24) (hov : cOver px0 py0 px1 py1 i j) : TMi l yX4_tile wsX4_tile { frames := 6, cells := 1, slots := 6, locals := 90 } [.ref ob, .int (nI i), .int (nI j), .int (bI true)] (dC, dI) [(ob, .inr (4, [.ref ahl, .int (nI nh), .ref abl, .int (nI nb), .ref asr, .ref pb, .ref atr, .int (nI nt), .ref tb, .ref mt])), (tb, .inr (0, [.long tx0, .long ty0, .long tx1, .long ty1, .long tdx, .long tdy])), (pb, .inr (0, [.long px0, .long py0, .long px1, .long py1, .long pdx, .long pdy]))] (fun (u : Unit) => [(ob, .inr (4, [.ref ahl, .int (nI nh), .ref abl, .int (nI nb), .ref asr, .ref pb, .ref atr, .int (nI nt), .ref tb, .ref mt])), (tb, .inr (0, [.long (16 * (nI i).toInt64), .long (16 * (nI j).toInt64), .long ((16 * (nI i).toInt64) + 16), .long ((16 * (nI j).toInt64) + 16), .long 0, .long 0])), (pb, .inr (0, [.long px0, .long py0, .long px1, .long py1, .long pdx, .long pdy]))]) [] "java/lang/IllegalStateException" := by
  intro hlt sz
  refine kOfX (cc := cX4_tile) (maxL := 5) (ret := (some .boolean)) (by decide) rfl (Nat.le_of_ble_eq_true rfl) ?_
  intro p e s m below meth c hx hb hr hml hts hown hlocks htab hB ls hl
  obtain ⟨⟨hsz, hP, hK, hD0⟩, hT⟩ := hB
  subst hsz
  have hD := hD0.self (sz := s.heap.size)
  generalize hAe : va_A [(ob, .inr (4, [.ref ahl, .int (nI nh), .ref abl, .int (nI nb), .ref asr, .ref pb, .ref atr, .int (nI nt), .ref tb, .ref mt])), (tb, .inr (0, [.long tx0, .long ty0, .long tx1, .long ty1, .long tdx, .long tdy])), (pb, .inr (0, [.long px0, .long py0, .long px1, .long py1, .long pdx, .long pdy]))] s.heap.size = A at hD hT ⊢
  have hA : ∀ q : Nat, s.heap.size ≤ q → A q := fun q h => by rw [← hAe]; exact Or.inr h
  have hS : va_S A s.heap s.heap [] := va_S.rf
  have hl : lv_has ls 5 [(0, .ref ob), (1, .int (nI i)), (2, .int (nI j)), (3, .int (bI true))] := hl
  have hi4 : ∀ w ∈ u_ws RX4 TX4 10, w ∈ wsX4_tile := by decide +kernel
  have f26 := hts (.fieldLink RX4 26 "SweptBoxes" "playerBox" "LSweptBoxes$Block;") (by decide +kernel)
  have f36 := hts (.fieldLink RX4 36 "SweptBoxes" "tileBlock" "LSweptBoxes$Block;") (by decide +kernel)
  refine lv_iload_n hx hb dX4_tile_0 rfl (lv_at hl 1 rfl) ?_
  refine lv_bipush (v := (nI 24)) hx hb dX4_tile_1 (by decide) ?_
  refine kmSv (As := [.int (nI i), .int (nI 24)]) (rest := []) (WC := []) (W2 := []) (WR := [(ob, .inr (4, [.ref ahl, .int (nI nh), .ref abl, .int (nI nb), .ref asr, .ref pb, .ref atr, .int (nI nt), .ref tb, .ref mt])), (tb, .inr (0, [.long tx0, .long ty0, .long tx1, .long ty1, .long tdx, .long tdy])), (pb, .inr (0, [.long px0, .long py0, .long px1, .long py1, .long pdx, .long pdy]))]) (WN := [(ob, .inr (4, [.ref ahl, .int (nI nh), .ref abl, .int (nI nb), .ref asr, .ref pb, .ref atr, .int (nI nt), .ref tb, .ref mt])), (tb, .inr (0, [.long tx0, .long ty0, .long tx1, .long ty1, .long tdx, .long tdy])), (pb, .inr (0, [.long px0, .long py0, .long px1, .long py1, .long pdx, .long pdy]))]) (tyC := []) (isC := []) (isR := [0, 1, 2]) (isN := [0, 1, 2]) (its := []) ⟨hx, hb, hml, hown, hts⟩ (tX4_needIndex_o l dC dI i 24 (by omega) (by omega)) (va_cwS 2 hts gX4_tile_X4_needIndex rfl rfl rfl (by decide +kernel) ⟨Nat.le_of_ble_eq_true rfl, Nat.le_of_ble_eq_true rfl⟩) hP hD hA hS hK rfl (by decide) rfl (by decide) (by decide) rfl (by decide) rfl rfl rfl hl.1 (Nat.le_of_ble_eq_true rfl) dX4_tile_3 ⟨Nat.le_of_ble_eq_true rfl, Nat.le_of_ble_eq_true rfl⟩ (fun H locs hP hD hS => ?_)
  refine lv_iload_n hx hb dX4_tile_6 rfl (lv_at hl 2 rfl) ?_
  refine lv_bipush (v := (nI 24)) hx hb dX4_tile_7 (by decide) ?_
  refine kmSv (As := [.int (nI j), .int (nI 24)]) (rest := []) (WC := []) (W2 := []) (WR := [(ob, .inr (4, [.ref ahl, .int (nI nh), .ref abl, .int (nI nb), .ref asr, .ref pb, .ref atr, .int (nI nt), .ref tb, .ref mt])), (tb, .inr (0, [.long tx0, .long ty0, .long tx1, .long ty1, .long tdx, .long tdy])), (pb, .inr (0, [.long px0, .long py0, .long px1, .long py1, .long pdx, .long pdy]))]) (WN := [(ob, .inr (4, [.ref ahl, .int (nI nh), .ref abl, .int (nI nb), .ref asr, .ref pb, .ref atr, .int (nI nt), .ref tb, .ref mt])), (tb, .inr (0, [.long tx0, .long ty0, .long tx1, .long ty1, .long tdx, .long tdy])), (pb, .inr (0, [.long px0, .long py0, .long px1, .long py1, .long pdx, .long pdy]))]) (tyC := []) (isC := []) (isR := [0, 1, 2]) (isN := [0, 1, 2]) (its := []) ⟨hx, hb, hml, hown, hts⟩ (tX4_needIndex_o l dC dI j 24 (by omega) (by omega)) (va_cwS 2 hts gX4_tile_X4_needIndex rfl rfl rfl (by decide +kernel) ⟨Nat.le_of_ble_eq_true rfl, Nat.le_of_ble_eq_true rfl⟩) hP hD hA hS hK rfl (by decide) rfl (by decide) (by decide) rfl (by decide) rfl rfl rfl hl.1 (Nat.le_of_ble_eq_true rfl) dX4_tile_9 ⟨Nat.le_of_ble_eq_true rfl, Nat.le_of_ble_eq_true rfl⟩ (fun H locs hP hD hS => ?_)
  refine lv_aload_n hx hb dX4_tile_12 rfl (lv_at hl 0 rfl) ?_
  refine va_get (D := (dC, dI)) (ci := 4) (v := .ref tb) (C := RX4) (T := TX4) (N := 10) hx hb hts hi4 hown hK hP 0 rfl rfl 8 (by decide) f36 (fun _ h9 => h9) rfl dX4_tile_13 ?_
  refine lv_iload_n hx hb dX4_tile_16 rfl (lv_at hl 1 rfl) ?_
  refine lv_iload_n hx hb dX4_tile_17 rfl (lv_at hl 2 rfl) ?_
  refine kmVv (q0 := 0) (ci := 0) (As := [.int (nI i), .int (nI j)]) (rest := []) (WC := [(tb, .inr (0, [.long tx0, .long ty0, .long tx1, .long ty1, .long tdx, .long tdy]))]) (W2 := [(tb, .inr (0, [.long (16 * (nI i).toInt64), .long (16 * (nI j).toInt64), .long ((16 * (nI i).toInt64) + 16), .long ((16 * (nI j).toInt64) + 16), .long 0, .long 0]))]) (WR := [(ob, .inr (4, [.ref ahl, .int (nI nh), .ref abl, .int (nI nb), .ref asr, .ref pb, .ref atr, .int (nI nt), .ref tb, .ref mt])), (pb, .inr (0, [.long px0, .long py0, .long px1, .long py1, .long pdx, .long pdy]))]) (WN := [(ob, .inr (4, [.ref ahl, .int (nI nh), .ref abl, .int (nI nb), .ref asr, .ref pb, .ref atr, .int (nI nt), .ref tb, .ref mt])), (tb, .inr (0, [.long (16 * (nI i).toInt64), .long (16 * (nI j).toInt64), .long ((16 * (nI i).toInt64) + 16), .long ((16 * (nI j).toInt64) + 16), .long 0, .long 0])), (pb, .inr (0, [.long px0, .long py0, .long px1, .long py1, .long pdx, .long pdy]))]) (tyC := []) (isC := [1]) (isR := [0, 2]) (isN := [0, 2, 1]) (its := []) ⟨hx, hb, hml, hown, hts⟩ (tX0_putTile l dC dI tb tx0 ty0 tx1 ty1 tdx tdy (nI i) (nI j)) (cwV 2 hts gX4_tile_X0_putTile rfl rfl rfl (by decide +kernel) ⟨Nat.le_of_ble_eq_true rfl, Nat.le_of_ble_eq_true rfl⟩) hP hD hA hS hK rfl (by decide) rfl (by decide) (by decide) rfl (by decide) rfl rfl rfl rfl rfl hl.1 (Nat.le_of_ble_eq_true rfl) dX4_tile_18 ⟨Nat.le_of_ble_eq_true rfl, Nat.le_of_ble_eq_true rfl⟩ (fun H locs hP hD hS => ?_)
  refine lv_iload_n hx hb dX4_tile_21 rfl (lv_at hl 3 rfl) ?_
  refine lv_if_eq (tgt := 49) hx hb dX4_tile_22 (by decide) (fun c22 => ?_) (fun c22 => ?_)
  · skip
    exact absurd c22 (by decide)
  · replace c22 := bI_n c22
    refine lv_aload_n hx hb dX4_tile_25 rfl (lv_at hl 0 rfl) ?_
    refine va_get (D := (dC, dI)) (ci := 4) (v := .ref tb) (C := RX4) (T := TX4) (N := 10) hx hb hts hi4 hown hK hP 0 rfl rfl 8 (by decide) f36 (fun _ h9 => h9) rfl dX4_tile_26 ?_
    refine lv_aload_n hx hb dX4_tile_29 rfl (lv_at hl 0 rfl) ?_
    refine va_get (D := (dC, dI)) (ci := 4) (v := .ref pb) (C := RX4) (T := TX4) (N := 10) hx hb hts hi4 hown hK hP 0 rfl rfl 5 (by decide) f26 (fun _ h9 => h9) rfl dX4_tile_30 ?_
    refine kpVi (q0 := 0) (ci := 0) (As := [.ref pb]) (rest := []) (WC := [(tb, .inr (0, [.long (16 * (nI i).toInt64), .long (16 * (nI j).toInt64), .long ((16 * (nI i).toInt64) + 16), .long ((16 * (nI j).toInt64) + 16), .long 0, .long 0])), (pb, .inr (0, [.long px0, .long py0, .long px1, .long py1, .long pdx, .long pdy]))]) (tyC := []) ⟨hx, hb, hml, hown, hts⟩ (tX0_liesOver l dC dI tb (16 * (nI i).toInt64) (16 * (nI j).toInt64) ((16 * (nI i).toInt64) + 16) ((16 * (nI j).toInt64) + 16) 0 0 pb px0 py0 px1 py1 pdx pdy) (cwV 1 hts gX4_tile_X0_liesOver rfl rfl rfl (by decide +kernel) ⟨Nat.le_of_ble_eq_true rfl, Nat.le_of_ble_eq_true rfl⟩) (kPick (isC := [1, 2]) hP rfl) (hK.sub [] rfl) rfl rfl rfl rfl hl.1 (Nat.le_of_ble_eq_true rfl) dX4_tile_33 ⟨Nat.le_of_ble_eq_true rfl, Nat.le_of_ble_eq_true rfl⟩ ?_
    refine lv_if_eq (tgt := 49) hx hb dX4_tile_36 (by decide) (fun c36 => ?_) (fun c36 => ?_)
    · replace c36 := bI_0 c36; replace c36 := of_decide_eq_false c36
      exact absurd hov c36
    · replace c36 := bI_n c36; replace c36 := of_decide_eq_true c36
      exact kThrow (u := ()) (is := 144) (rest := []) hx hb hlt hown (by decide +kernel) (by decide +kernel) (by decide +kernel) (hts (.classLink RX4 55 "java/lang/IllegalStateException") (by decide +kernel)) (hts (.initialized "java/lang/IllegalStateException") (by decide +kernel)) (List.mem_of_getElem? (i := 4) rfl) (fun w h => hts w (xin_X4_tile_59 w h)) xbad_59 xgood_59 hT hS (hl.1.trans hml.symm) dX4_tile_39 dX4_tile_42 dX4_tile_43 dX4_tile_45 dX4_tile_48 htab (Nat.lt_of_lt_of_le (by decide) (Nat.le_of_ble_eq_true rfl : 6 ≤ _)) (Nat.le_of_ble_eq_true rfl) (Nat.le_of_ble_eq_true rfl) (Nat.le_of_ble_eq_true rfl) hlocks hP hK hD

set_option maxHeartbeats 4000000 in
set_option maxRecDepth 100000 in
theorem tX4_player_e (l : Launch) (dC : Nat → ClassId) (dI : Nat → Nat → Nat) (ob ahl nh abl nb asr pb atr nt tb mt : Nat) (x y w h : Int64) (hbad : ¬ ((-10000 ≤ x ∧ x ≤ 10000) ∧ (-10000 ≤ y ∧ y ≤ 10000) ∧ 1 ≤ w ∧ w ≤ 64 ∧ 1 ≤ h ∧ h ≤ 64)) : TMi l yX4_player wsX4_player { frames := 7, cells := 1, slots := 6, locals := 113 } [.ref ob, .long x, .long y, .long w, .long h] (dC, dI) [(ob, .inr (4, [.ref ahl, .int (nI nh), .ref abl, .int (nI nb), .ref asr, .ref pb, .ref atr, .int (nI nt), .ref tb, .ref mt]))] (fun (u : Unit) => [(ob, .inr (4, [.ref ahl, .int (nI nh), .ref abl, .int (nI nb), .ref asr, .ref pb, .ref atr, .int (nI nt), .ref tb, .ref mt]))]) [] "java/lang/IllegalArgumentException" := by
  intro hlt sz
  refine kOfX (cc := cX4_player) (maxL := 9) (ret := (some .boolean)) (by decide) rfl (Nat.le_of_ble_eq_true rfl) ?_
  intro p e s m below meth c hx hb hr hml hts hown hlocks htab hB ls hl
  obtain ⟨⟨hsz, hP, hK, hD0⟩, hT⟩ := hB
  subst hsz
  have hD := hD0.self (sz := s.heap.size)
  generalize hAe : va_A [(ob, .inr (4, [.ref ahl, .int (nI nh), .ref abl, .int (nI nb), .ref asr, .ref pb, .ref atr, .int (nI nt), .ref tb, .ref mt]))] s.heap.size = A at hD hT ⊢
  have hA : ∀ q : Nat, s.heap.size ≤ q → A q := fun q h => by rw [← hAe]; exact Or.inr h
  have hS : va_S A s.heap s.heap [] := va_S.rf
  have hl : lv_has ls 9 [(0, .ref ob), (1, .long x), (3, .long y), (5, .long w), (7, .long h)] := hl
  refine lv_lload_n hx hb dX4_player_0 rfl (lv_at hl 1 rfl) ?_
  refine lv_lload_n hx hb dX4_player_1 rfl (lv_at hl 2 rfl) ?_
  by_cases hk2 : (-10000 ≤ x ∧ x ≤ 10000) ∧ (-10000 ≤ y ∧ y ≤ 10000)
  · skip
    refine kmSv (As := [.long x, .long y]) (rest := []) (WC := []) (W2 := []) (WR := [(ob, .inr (4, [.ref ahl, .int (nI nh), .ref abl, .int (nI nb), .ref asr, .ref pb, .ref atr, .int (nI nt), .ref tb, .ref mt]))]) (WN := [(ob, .inr (4, [.ref ahl, .int (nI nh), .ref abl, .int (nI nb), .ref asr, .ref pb, .ref atr, .int (nI nt), .ref tb, .ref mt]))]) (tyC := []) (isC := []) (isR := [0]) (isN := [0]) (its := []) ⟨hx, hb, hml, hown, hts⟩ (tX4_needInRange_o l dC dI x y hk2) (va_cwS 2 hts gX4_player_X4_needInRange rfl rfl rfl (by decide +kernel) ⟨Nat.le_of_ble_eq_true rfl, Nat.le_of_ble_eq_true rfl⟩) hP hD hA hS hK rfl (by decide) rfl (by decide) (by decide) rfl (by decide) rfl rfl rfl hl.1 (Nat.le_of_ble_eq_true rfl) dX4_player_2 ⟨Nat.le_of_ble_eq_true rfl, Nat.le_of_ble_eq_true rfl⟩ (fun H locs hP hD hS => ?_)
    refine lv_lload hx hb dX4_player_5 (lv_at hl 3 rfl) ?_
    refine lv_lconst (v := 1) hx hb dX4_player_7 (by decide) ?_
    refine W.lcmp hx hb dX4_player_8 ?_
    refine lv_if_lt (tgt := 37) hx hb dX4_player_9 (by decide) (fun c9 => ?_) (fun c9 => ?_)
    · rw [lg_cmp_lt] at c9
      exact kThrow (u := ()) (is := 152) (rest := []) hx hb hlt hown (by decide +kernel) (by decide +kernel) (by decide +kernel) (hts (.classLink RX4 101 "java/lang/IllegalArgumentException") (by decide +kernel)) (hts (.initialized "java/lang/IllegalArgumentException") (by decide +kernel)) (List.mem_of_getElem? (i := 5) rfl) (fun w h => hts w (xin_X4_player_105 w h)) xbad_105 xgood_105 hT hS (hl.1.trans hml.symm) dX4_player_37 dX4_player_40 dX4_player_41 dX4_player_43 dX4_player_46 htab (Nat.lt_of_lt_of_le (by decide) (Nat.le_of_ble_eq_true rfl : 6 ≤ _)) (Nat.le_of_ble_eq_true rfl) (Nat.le_of_ble_eq_true rfl) (Nat.le_of_ble_eq_true rfl) hlocks hP hK hD
    · rw [lg_cmp_lt, Int64.not_lt] at c9
      refine lv_lload hx hb dX4_player_12 (lv_at hl 3 rfl) ?_
      refine lv_ldc2 hx hb hown (hts (.constantLong RX4 150 (64)) (by decide +kernel)) dX4_player_14 ?_
      refine W.lcmp hx hb dX4_player_17 ?_
      refine lv_if_gt (tgt := 37) hx hb dX4_player_18 (by decide) (fun c18 => ?_) (fun c18 => ?_)
      · rw [lg_cmp_gt] at c18
        exact kThrow (u := ()) (is := 152) (rest := []) hx hb hlt hown (by decide +kernel) (by decide +kernel) (by decide +kernel) (hts (.classLink RX4 101 "java/lang/IllegalArgumentException") (by decide +kernel)) (hts (.initialized "java/lang/IllegalArgumentException") (by decide +kernel)) (List.mem_of_getElem? (i := 5) rfl) (fun w h => hts w (xin_X4_player_105 w h)) xbad_105 xgood_105 hT hS (hl.1.trans hml.symm) dX4_player_37 dX4_player_40 dX4_player_41 dX4_player_43 dX4_player_46 htab (Nat.lt_of_lt_of_le (by decide) (Nat.le_of_ble_eq_true rfl : 6 ≤ _)) (Nat.le_of_ble_eq_true rfl) (Nat.le_of_ble_eq_true rfl) (Nat.le_of_ble_eq_true rfl) hlocks hP hK hD
      · rw [lg_cmp_gt, Int64.not_lt] at c18
        refine lv_lload hx hb dX4_player_21 (lv_at hl 4 rfl) ?_
        refine lv_lconst (v := 1) hx hb dX4_player_23 (by decide) ?_
        refine W.lcmp hx hb dX4_player_24 ?_
        refine lv_if_lt (tgt := 37) hx hb dX4_player_25 (by decide) (fun c25 => ?_) (fun c25 => ?_)
        · rw [lg_cmp_lt] at c25
          exact kThrow (u := ()) (is := 152) (rest := []) hx hb hlt hown (by decide +kernel) (by decide +kernel) (by decide +kernel) (hts (.classLink RX4 101 "java/lang/IllegalArgumentException") (by decide +kernel)) (hts (.initialized "java/lang/IllegalArgumentException") (by decide +kernel)) (List.mem_of_getElem? (i := 5) rfl) (fun w h => hts w (xin_X4_player_105 w h)) xbad_105 xgood_105 hT hS (hl.1.trans hml.symm) dX4_player_37 dX4_player_40 dX4_player_41 dX4_player_43 dX4_player_46 htab (Nat.lt_of_lt_of_le (by decide) (Nat.le_of_ble_eq_true rfl : 6 ≤ _)) (Nat.le_of_ble_eq_true rfl) (Nat.le_of_ble_eq_true rfl) (Nat.le_of_ble_eq_true rfl) hlocks hP hK hD
        · rw [lg_cmp_lt, Int64.not_lt] at c25
          refine lv_lload hx hb dX4_player_28 (lv_at hl 4 rfl) ?_
          refine lv_ldc2 hx hb hown (hts (.constantLong RX4 150 (64)) (by decide +kernel)) dX4_player_30 ?_
          refine W.lcmp hx hb dX4_player_33 ?_
          refine lv_if_le (tgt := 47) hx hb dX4_player_34 (by decide) (fun c34 => ?_) (fun c34 => ?_)
          · rw [lg_cmp_le] at c34
            exact absurd ⟨hk2.1, hk2.2, c9, c18, c25, c34⟩ hbad
          · rw [lg_cmp_le, Int64.not_le] at c34
            exact kThrow (u := ()) (is := 152) (rest := []) hx hb hlt hown (by decide +kernel) (by decide +kernel) (by decide +kernel) (hts (.classLink RX4 101 "java/lang/IllegalArgumentException") (by decide +kernel)) (hts (.initialized "java/lang/IllegalArgumentException") (by decide +kernel)) (List.mem_of_getElem? (i := 5) rfl) (fun w h => hts w (xin_X4_player_105 w h)) xbad_105 xgood_105 hT hS (hl.1.trans hml.symm) dX4_player_37 dX4_player_40 dX4_player_41 dX4_player_43 dX4_player_46 htab (Nat.lt_of_lt_of_le (by decide) (Nat.le_of_ble_eq_true rfl : 6 ≤ _)) (Nat.le_of_ble_eq_true rfl) (Nat.le_of_ble_eq_true rfl) (Nat.le_of_ble_eq_true rfl) hlocks hP hK hD
  · skip
    exact kTS (As := [.long x, .long y]) (rest := []) (WC := []) (W2c := fun (_ : Unit) => []) (WR := [(ob, .inr (4, [.ref ahl, .int (nI nh), .ref abl, .int (nI nb), .ref asr, .ref pb, .ref atr, .int (nI nt), .ref tb, .ref mt]))]) (WN := fun (_ : Unit) => [(ob, .inr (4, [.ref ahl, .int (nI nh), .ref abl, .int (nI nb), .ref asr, .ref pb, .ref atr, .int (nI nt), .ref tb, .ref mt]))]) (tyC := []) (isC := []) (isR := [0]) (isN := [0]) (its := []) ⟨hx, hb, hml, hown, hts⟩ (tX4_needInRange_e l dC dI x y hk2) hlt (va_cwS 2 hts gX4_player_X4_needInRange rfl rfl rfl (by decide +kernel) ⟨Nat.le_of_ble_eq_true rfl, Nat.le_of_ble_eq_true rfl⟩) hP hD hA hS hK hT rfl (by decide) rfl (by decide) (by decide) (fun _ => rfl) (by decide) rfl rfl rfl hl.1 (Nat.le_of_ble_eq_true rfl) dX4_player_2 ⟨Nat.le_of_ble_eq_true rfl, Nat.le_of_ble_eq_true rfl⟩ htab hlocks (fun _ => ()) (fun _ => rfl)

set_option maxHeartbeats 4000000 in
set_option maxRecDepth 100000 in
theorem tX4_step_e (l : Launch) (dC : Nat → ClassId) (dI : Nat → Nat → Nat) (ob ahl nh abl nb asr pb atr nt tb mt : Nat) (px0 py0 px1 py1 pdx pdy : Int64) (dx dy : Int64) (si : Int32) (hbad : ¬ ((-10000 ≤ dx ∧ dx ≤ 10000) ∧ (-10000 ≤ dy ∧ dy ≤ 10000) ∧ (-10000 ≤ (px0 + dx) ∧ (px0 + dx) ≤ 10000) ∧ (-10000 ≤ (py0 + dy) ∧ (py0 + dy) ≤ 10000) ∧ 0 ≤ si ∧ si ≤ nI 8)) : TMi l yX4_step wsX4_step { frames := 7, cells := 1, slots := 6, locals := 113 } [.ref ob, .long dx, .long dy, .int si] (dC, dI) [(ob, .inr (4, [.ref ahl, .int (nI nh), .ref abl, .int (nI nb), .ref asr, .ref pb, .ref atr, .int (nI nt), .ref tb, .ref mt])), (pb, .inr (0, [.long px0, .long py0, .long px1, .long py1, .long pdx, .long pdy]))] (fun (u : Unit) => [(ob, .inr (4, [.ref ahl, .int (nI nh), .ref abl, .int (nI nb), .ref asr, .ref pb, .ref atr, .int (nI nt), .ref tb, .ref mt])), (pb, .inr (0, [.long px0, .long py0, .long px1, .long py1, .long pdx, .long pdy]))]) [] "java/lang/IllegalArgumentException" := by
  intro hlt sz
  refine kOfX (cc := cX4_step) (maxL := 6) (ret := (some .int)) (by decide) rfl (Nat.le_of_ble_eq_true rfl) ?_
  intro p e s m below meth c hx hb hr hml hts hown hlocks htab hB ls hl
  obtain ⟨⟨hsz, hP, hK, hD0⟩, hT⟩ := hB
  subst hsz
  have hD := hD0.self (sz := s.heap.size)
  generalize hAe : va_A [(ob, .inr (4, [.ref ahl, .int (nI nh), .ref abl, .int (nI nb), .ref asr, .ref pb, .ref atr, .int (nI nt), .ref tb, .ref mt])), (pb, .inr (0, [.long px0, .long py0, .long px1, .long py1, .long pdx, .long pdy]))] s.heap.size = A at hD hT ⊢
  have hA : ∀ q : Nat, s.heap.size ≤ q → A q := fun q h => by rw [← hAe]; exact Or.inr h
  have hS : va_S A s.heap s.heap [] := va_S.rf
  have hl : lv_has ls 6 [(0, .ref ob), (1, .long dx), (3, .long dy), (5, .int si)] := hl
  have hi0 : ∀ w ∈ u_ws RX0 TX0 6, w ∈ wsX4_step := by decide +kernel
  have hi4 : ∀ w ∈ u_ws RX4 TX4 10, w ∈ wsX4_step := by decide +kernel
  have f26 := hts (.fieldLink RX4 26 "SweptBoxes" "playerBox" "LSweptBoxes$Block;") (by decide +kernel)
  have f158 := hts (.fieldLink RX4 158 "SweptBoxes$Block" "x0" "J") (by decide +kernel)
  have f161 := hts (.fieldLink RX4 161 "SweptBoxes$Block" "y0" "J") (by decide +kernel)
  refine lv_lload_n hx hb dX4_step_0 rfl (lv_at hl 1 rfl) ?_
  refine lv_lload_n hx hb dX4_step_1 rfl (lv_at hl 2 rfl) ?_
  by_cases hk2 : (-10000 ≤ dx ∧ dx ≤ 10000) ∧ (-10000 ≤ dy ∧ dy ≤ 10000)
  · skip
    refine kmSv (As := [.long dx, .long dy]) (rest := []) (WC := []) (W2 := []) (WR := [(ob, .inr (4, [.ref ahl, .int (nI nh), .ref abl, .int (nI nb), .ref asr, .ref pb, .ref atr, .int (nI nt), .ref tb, .ref mt])), (pb, .inr (0, [.long px0, .long py0, .long px1, .long py1, .long pdx, .long pdy]))]) (WN := [(ob, .inr (4, [.ref ahl, .int (nI nh), .ref abl, .int (nI nb), .ref asr, .ref pb, .ref atr, .int (nI nt), .ref tb, .ref mt])), (pb, .inr (0, [.long px0, .long py0, .long px1, .long py1, .long pdx, .long pdy]))]) (tyC := []) (isC := []) (isR := [0, 1]) (isN := [0, 1]) (its := []) ⟨hx, hb, hml, hown, hts⟩ (tX4_needInRange_o l dC dI dx dy hk2) (va_cwS 2 hts gX4_step_X4_needInRange rfl rfl rfl (by decide +kernel) ⟨Nat.le_of_ble_eq_true rfl, Nat.le_of_ble_eq_true rfl⟩) hP hD hA hS hK rfl (by decide) rfl (by decide) (by decide) rfl (by decide) rfl rfl rfl hl.1 (Nat.le_of_ble_eq_true rfl) dX4_step_2 ⟨Nat.le_of_ble_eq_true rfl, Nat.le_of_ble_eq_true rfl⟩ (fun H locs hP hD hS => ?_)
    refine lv_aload_n hx hb dX4_step_5 rfl (lv_at hl 0 rfl) ?_
    refine va_get (D := (dC, dI)) (ci := 4) (v := .ref pb) (C := RX4) (T := TX4) (N := 10) hx hb hts hi4 hown hK hP 0 rfl rfl 5 (by decide) f26 (fun _ h9 => h9) rfl dX4_step_6 ?_
    refine va_get (D := (dC, dI)) (ci := 0) (v := .long px0) (C := RX0) (T := TX0) (N := 6) hx hb hts hi0 hown hK hP 1 rfl rfl 0 (by decide) f158 (fun _ h9 => h9) rfl dX4_step_9 ?_
    refine lv_lload_n hx hb dX4_step_12 rfl (lv_at hl 1 rfl) ?_
    refine lv_ladd hx hb dX4_step_13 ?_
    refine lv_aload_n hx hb dX4_step_14 rfl (lv_at hl 0 rfl) ?_
    refine va_get (D := (dC, dI)) (ci := 4) (v := .ref pb) (C := RX4) (T := TX4) (N := 10) hx hb hts hi4 hown hK hP 0 rfl rfl 5 (by decide) f26 (fun _ h9 => h9) rfl dX4_step_15 ?_
    refine va_get (D := (dC, dI)) (ci := 0) (v := .long py0) (C := RX0) (T := TX0) (N := 6) hx hb hts hi0 hown hK hP 1 rfl rfl 1 (by decide) f161 (fun _ h9 => h9) rfl dX4_step_18 ?_
    refine lv_lload_n hx hb dX4_step_21 rfl (lv_at hl 2 rfl) ?_
    refine lv_ladd hx hb dX4_step_22 ?_
    by_cases hk23 : (-10000 ≤ (px0 + dx) ∧ (px0 + dx) ≤ 10000) ∧ (-10000 ≤ (py0 + dy) ∧ (py0 + dy) ≤ 10000)
    · skip
      refine kmSv (As := [.long (px0 + dx), .long (py0 + dy)]) (rest := []) (WC := []) (W2 := []) (WR := [(ob, .inr (4, [.ref ahl, .int (nI nh), .ref abl, .int (nI nb), .ref asr, .ref pb, .ref atr, .int (nI nt), .ref tb, .ref mt])), (pb, .inr (0, [.long px0, .long py0, .long px1, .long py1, .long pdx, .long pdy]))]) (WN := [(ob, .inr (4, [.ref ahl, .int (nI nh), .ref abl, .int (nI nb), .ref asr, .ref pb, .ref atr, .int (nI nt), .ref tb, .ref mt])), (pb, .inr (0, [.long px0, .long py0, .long px1, .long py1, .long pdx, .long pdy]))]) (tyC := []) (isC := []) (isR := [0, 1]) (isN := [0, 1]) (its := []) ⟨hx, hb, hml, hown, hts⟩ (tX4_needInRange_o l dC dI (px0 + dx) (py0 + dy) hk23) (va_cwS 2 hts gX4_step_X4_needInRange rfl rfl rfl (by decide +kernel) ⟨Nat.le_of_ble_eq_true rfl, Nat.le_of_ble_eq_true rfl⟩) hP hD hA hS hK rfl (by decide) rfl (by decide) (by decide) rfl (by decide) rfl rfl rfl hl.1 (Nat.le_of_ble_eq_true rfl) dX4_step_23 ⟨Nat.le_of_ble_eq_true rfl, Nat.le_of_ble_eq_true rfl⟩ (fun H locs hP hD hS => ?_)
      refine lv_iload hx hb dX4_step_26 (lv_at hl 3 rfl) ?_
      refine lv_if_lt (tgt := 38) hx hb dX4_step_28 (by decide) (fun c28 => ?_) (fun c28 => ?_)
      · skip
        exact kThrow (u := ()) (is := 164) (rest := []) hx hb hlt hown (by decide +kernel) (by decide +kernel) (by decide +kernel) (hts (.classLink RX4 101 "java/lang/IllegalArgumentException") (by decide +kernel)) (hts (.initialized "java/lang/IllegalArgumentException") (by decide +kernel)) (List.mem_of_getElem? (i := 6) rfl) (fun w h => hts w (xin_X4_step_105 w h)) xbad_105 xgood_105 hT hS (hl.1.trans hml.symm) dX4_step_38 dX4_step_41 dX4_step_42 dX4_step_44 dX4_step_47 htab (Nat.lt_of_lt_of_le (by decide) (Nat.le_of_ble_eq_true rfl : 6 ≤ _)) (Nat.le_of_ble_eq_true rfl) (Nat.le_of_ble_eq_true rfl) (Nat.le_of_ble_eq_true rfl) hlocks hP hK hD
      · skip
        refine lv_iload hx hb dX4_step_31 (lv_at hl 3 rfl) ?_
        refine lv_bipush (v := (nI 8)) hx hb dX4_step_33 (by decide) ?_
        refine lv_icmp_le (tgt := 48) hx hb dX4_step_35 (by decide) (fun c35 => ?_) (fun c35 => ?_)
        · skip
          exact absurd ⟨hk2.1, hk2.2, hk23.1, hk23.2, Int32.not_lt.mp c28, c35⟩ hbad
        · skip
          exact kThrow (u := ()) (is := 164) (rest := []) hx hb hlt hown (by decide +kernel) (by decide +kernel) (by decide +kernel) (hts (.classLink RX4 101 "java/lang/IllegalArgumentException") (by decide +kernel)) (hts (.initialized "java/lang/IllegalArgumentException") (by decide +kernel)) (List.mem_of_getElem? (i := 6) rfl) (fun w h => hts w (xin_X4_step_105 w h)) xbad_105 xgood_105 hT hS (hl.1.trans hml.symm) dX4_step_38 dX4_step_41 dX4_step_42 dX4_step_44 dX4_step_47 htab (Nat.lt_of_lt_of_le (by decide) (Nat.le_of_ble_eq_true rfl : 6 ≤ _)) (Nat.le_of_ble_eq_true rfl) (Nat.le_of_ble_eq_true rfl) (Nat.le_of_ble_eq_true rfl) hlocks hP hK hD
    · skip
      exact kTS (As := [.long (px0 + dx), .long (py0 + dy)]) (rest := []) (WC := []) (W2c := fun (_ : Unit) => []) (WR := [(ob, .inr (4, [.ref ahl, .int (nI nh), .ref abl, .int (nI nb), .ref asr, .ref pb, .ref atr, .int (nI nt), .ref tb, .ref mt])), (pb, .inr (0, [.long px0, .long py0, .long px1, .long py1, .long pdx, .long pdy]))]) (WN := fun (_ : Unit) => [(ob, .inr (4, [.ref ahl, .int (nI nh), .ref abl, .int (nI nb), .ref asr, .ref pb, .ref atr, .int (nI nt), .ref tb, .ref mt])), (pb, .inr (0, [.long px0, .long py0, .long px1, .long py1, .long pdx, .long pdy]))]) (tyC := []) (isC := []) (isR := [0, 1]) (isN := [0, 1]) (its := []) ⟨hx, hb, hml, hown, hts⟩ (tX4_needInRange_e l dC dI (px0 + dx) (py0 + dy) hk23) hlt (va_cwS 2 hts gX4_step_X4_needInRange rfl rfl rfl (by decide +kernel) ⟨Nat.le_of_ble_eq_true rfl, Nat.le_of_ble_eq_true rfl⟩) hP hD hA hS hK hT rfl (by decide) rfl (by decide) (by decide) (fun _ => rfl) (by decide) rfl rfl rfl hl.1 (Nat.le_of_ble_eq_true rfl) dX4_step_23 ⟨Nat.le_of_ble_eq_true rfl, Nat.le_of_ble_eq_true rfl⟩ htab hlocks (fun _ => ()) (fun _ => rfl)
  · skip
    exact kTS (As := [.long dx, .long dy]) (rest := []) (WC := []) (W2c := fun (_ : Unit) => []) (WR := [(ob, .inr (4, [.ref ahl, .int (nI nh), .ref abl, .int (nI nb), .ref asr, .ref pb, .ref atr, .int (nI nt), .ref tb, .ref mt])), (pb, .inr (0, [.long px0, .long py0, .long px1, .long py1, .long pdx, .long pdy]))]) (WN := fun (_ : Unit) => [(ob, .inr (4, [.ref ahl, .int (nI nh), .ref abl, .int (nI nb), .ref asr, .ref pb, .ref atr, .int (nI nt), .ref tb, .ref mt])), (pb, .inr (0, [.long px0, .long py0, .long px1, .long py1, .long pdx, .long pdy]))]) (tyC := []) (isC := []) (isR := [0, 1]) (isN := [0, 1]) (its := []) ⟨hx, hb, hml, hown, hts⟩ (tX4_needInRange_e l dC dI dx dy hk2) hlt (va_cwS 2 hts gX4_step_X4_needInRange rfl rfl rfl (by decide +kernel) ⟨Nat.le_of_ble_eq_true rfl, Nat.le_of_ble_eq_true rfl⟩) hP hD hA hS hK hT rfl (by decide) rfl (by decide) (by decide) (fun _ => rfl) (by decide) rfl rfl rfl hl.1 (Nat.le_of_ble_eq_true rfl) dX4_step_2 ⟨Nat.le_of_ble_eq_true rfl, Nat.le_of_ble_eq_true rfl⟩ htab hlocks (fun _ => ()) (fun _ => rfl)

set_option maxHeartbeats 4000000 in
set_option maxRecDepth 100000 in
theorem tX4_at_e (l : Launch) (dC : Nat → ClassId) (dI : Nat → Nat → Nat) (ob ahl nh abl nb asr pb atr nt tb mt : Nat) (si : Int32) (hbad : ¬ (0 ≤ si ∧ si ≤ nI 3)) : TMl l yX4_at wsX4_at { frames := 6, cells := 1, slots := 6, locals := 90 } [.ref ob, .int si] (dC, dI) [(ob, .inr (4, [.ref ahl, .int (nI nh), .ref abl, .int (nI nb), .ref asr, .ref pb, .ref atr, .int (nI nt), .ref tb, .ref mt]))] (fun (u : Unit) => [(ob, .inr (4, [.ref ahl, .int (nI nh), .ref abl, .int (nI nb), .ref asr, .ref pb, .ref atr, .int (nI nt), .ref tb, .ref mt]))]) [] "java/lang/IndexOutOfBoundsException" := by
  intro hlt sz
  refine kOfX (cc := cX4_at) (maxL := 2) (ret := (some .long)) (by decide) rfl (Nat.le_of_ble_eq_true rfl) ?_
  intro p e s m below meth c hx hb hr hml hts hown hlocks htab hB ls hl
  obtain ⟨⟨hsz, hP, hK, hD0⟩, hT⟩ := hB
  subst hsz
  have hD := hD0.self (sz := s.heap.size)
  generalize hAe : va_A [(ob, .inr (4, [.ref ahl, .int (nI nh), .ref abl, .int (nI nb), .ref asr, .ref pb, .ref atr, .int (nI nt), .ref tb, .ref mt]))] s.heap.size = A at hD hT ⊢
  have hA : ∀ q : Nat, s.heap.size ≤ q → A q := fun q h => by rw [← hAe]; exact Or.inr h
  have hS : va_S A s.heap s.heap [] := va_S.rf
  have hl : lv_has ls 2 [(0, .ref ob), (1, .int si)] := hl
  refine lv_iload_n hx hb dX4_at_0 rfl (lv_at hl 1 rfl) ?_
  refine lv_tableOut (tgt := 80) hx hb dX4_at_1 (sw_out (by decide) hbad) (by decide) ?_
  exact kThrow (u := ()) (is := 181) (rest := []) hx hb hlt hown (by decide +kernel) (by decide +kernel) (by decide +kernel) (hts (.classLink RX4 179 "java/lang/IndexOutOfBoundsException") (by decide +kernel)) (hts (.initialized "java/lang/IndexOutOfBoundsException") (by decide +kernel)) (List.mem_of_getElem? (i := 7) rfl) (fun w h => hts w (xin_X4_at_183 w h)) xbad_183 xgood_183 hT hS (hl.1.trans hml.symm) dX4_at_80 dX4_at_83 dX4_at_84 dX4_at_86 dX4_at_89 htab (Nat.lt_of_lt_of_le (by decide) (Nat.le_of_ble_eq_true rfl : 6 ≤ _)) (Nat.le_of_ble_eq_true rfl) (Nat.le_of_ble_eq_true rfl) (Nat.le_of_ble_eq_true rfl) hlocks hP hK hD

set_option maxHeartbeats 4000000 in
set_option maxRecDepth 100000 in
theorem tX4_sweep_e1 (l : Launch) (dC : Nat → ClassId) (dI : Nat → Nat → Nat) (ob ahl nh abl nb asr pb atr nt tb mt : Nat) (si sj : Int32) (hbad : ¬ (0 ≤ si ∧ si < nI nt)) (hn : nt ≤ 8) : TMl l yX4_sweep wsX4_sweep { frames := 7, cells := 1, slots := 6, locals := 111 } [.ref ob, .int si, .int sj] (dC, dI) [(ob, .inr (4, [.ref ahl, .int (nI nh), .ref abl, .int (nI nb), .ref asr, .ref pb, .ref atr, .int (nI nt), .ref tb, .ref mt]))] (fun (u : Unit) => [(ob, .inr (4, [.ref ahl, .int (nI nh), .ref abl, .int (nI nb), .ref asr, .ref pb, .ref atr, .int (nI nt), .ref tb, .ref mt]))]) [] "java/lang/IndexOutOfBoundsException" := by
  intro hlt sz
  refine kOfX (cc := cX4_sweep) (maxL := 4) (ret := (some .long)) (by decide) rfl (Nat.le_of_ble_eq_true rfl) ?_
  intro p e s m below meth c hx hb hr hml hts hown hlocks htab hB ls hl
  obtain ⟨⟨hsz, hP, hK, hD0⟩, hT⟩ := hB
  subst hsz
  have hD := hD0.self (sz := s.heap.size)
  generalize hAe : va_A [(ob, .inr (4, [.ref ahl, .int (nI nh), .ref abl, .int (nI nb), .ref asr, .ref pb, .ref atr, .int (nI nt), .ref tb, .ref mt]))] s.heap.size = A at hD hT ⊢
  have hA : ∀ q : Nat, s.heap.size ≤ q → A q := fun q h => by rw [← hAe]; exact Or.inr h
  have hS : va_S A s.heap s.heap [] := va_S.rf
  have hl : lv_has ls 4 [(0, .ref ob), (1, .int si), (2, .int sj)] := hl
  have hi4 : ∀ w ∈ u_ws RX4 TX4 10, w ∈ wsX4_sweep := by decide +kernel
  have f166 := hts (.fieldLink RX4 166 "SweptBoxes" "traceCount" "I") (by decide +kernel)
  refine lv_iload_n hx hb dX4_sweep_0 rfl (lv_at hl 1 rfl) ?_
  refine lv_aload_n hx hb dX4_sweep_1 rfl (lv_at hl 0 rfl) ?_
  refine va_get (D := (dC, dI)) (ci := 4) (v := .int (nI nt)) (C := RX4) (T := TX4) (N := 10) hx hb hts hi4 hown hK hP 0 rfl rfl 7 (by decide) f166 (fun _ h9 => h9) rfl dX4_sweep_2 ?_
  exact kTS (As := [.int si, .int (nI nt)]) (rest := []) (WC := []) (W2c := fun (_ : Unit) => []) (WR := [(ob, .inr (4, [.ref ahl, .int (nI nh), .ref abl, .int (nI nb), .ref asr, .ref pb, .ref atr, .int (nI nt), .ref tb, .ref mt]))]) (WN := fun (_ : Unit) => [(ob, .inr (4, [.ref ahl, .int (nI nh), .ref abl, .int (nI nb), .ref asr, .ref pb, .ref atr, .int (nI nt), .ref tb, .ref mt]))]) (tyC := []) (isC := []) (isR := [0]) (isN := [0]) (its := []) ⟨hx, hb, hml, hown, hts⟩ (tX4_needIndex_e l dC dI si nt hbad (by omega)) hlt (va_cwS 2 hts gX4_sweep_X4_needIndex rfl rfl rfl (by decide +kernel) ⟨Nat.le_of_ble_eq_true rfl, Nat.le_of_ble_eq_true rfl⟩) hP hD hA hS hK hT rfl (by decide) rfl (by decide) (by decide) (fun _ => rfl) (by decide) rfl rfl rfl hl.1 (Nat.le_of_ble_eq_true rfl) dX4_sweep_5 ⟨Nat.le_of_ble_eq_true rfl, Nat.le_of_ble_eq_true rfl⟩ htab hlocks (fun _ => ()) (fun _ => rfl)

set_option maxHeartbeats 4000000 in
set_option maxRecDepth 100000 in
theorem tX4_sweep_e2 (l : Launch) (dC : Nat → ClassId) (dI : Nat → Nat → Nat) (cT : ClassId) (ob ahl nh abl nb asr pb atr nt tb mt : Nat) (ftr : Nat → Option Nat) (tr : Nat) (zx zy : Int64) (zk : Nat) (zmo : Option Nat) (zup zlo : Int64) (k : Nat) (sj : Int32) (hk : k < nt) (hn : nt ≤ 8) (hh : ftr k = some tr) (hbad : ¬ (0 ≤ sj ∧ sj ≤ nI 5)) : TMl l yX4_sweep wsX4_sweep { frames := 6, cells := 1, slots := 6, locals := 90 } [.ref ob, .int (nI k), .int sj] (dC, dI) [(ob, .inr (4, [.ref ahl, .int (nI nh), .ref abl, .int (nI nb), .ref asr, .ref pb, .ref atr, .int (nI nt), .ref tb, .ref mt])), (atr, .inl (cT, 8, .inr (.inr (.inr (.inr ftr))))), (tr, .inr (3, [.long zx, .long zy, .int (axI zk), .int (mI zmo), .long zup, .long zlo]))] (fun (u : Unit) => [(ob, .inr (4, [.ref ahl, .int (nI nh), .ref abl, .int (nI nb), .ref asr, .ref pb, .ref atr, .int (nI nt), .ref tb, .ref mt])), (atr, .inl (cT, 8, .inr (.inr (.inr (.inr ftr))))), (tr, .inr (3, [.long zx, .long zy, .int (axI zk), .int (mI zmo), .long zup, .long zlo]))]) [(cT, .object "SweptBoxes$Trace")] "java/lang/IndexOutOfBoundsException" := by
  intro hlt sz
  refine kOfX (cc := cX4_sweep) (maxL := 4) (ret := (some .long)) (by decide) rfl (Nat.le_of_ble_eq_true rfl) ?_
  intro p e s m below meth c hx hb hr hml hts hown hlocks htab hB ls hl
  obtain ⟨⟨hsz, hP, hK, hD0⟩, hT⟩ := hB
  subst hsz
  have hD := hD0.self (sz := s.heap.size)
  generalize hAe : va_A [(ob, .inr (4, [.ref ahl, .int (nI nh), .ref abl, .int (nI nb), .ref asr, .ref pb, .ref atr, .int (nI nt), .ref tb, .ref mt])), (atr, .inl (cT, 8, .inr (.inr (.inr (.inr ftr))))), (tr, .inr (3, [.long zx, .long zy, .int (axI zk), .int (mI zmo), .long zup, .long zlo]))] s.heap.size = A at hD hT ⊢
  have hA : ∀ q : Nat, s.heap.size ≤ q → A q := fun q h => by rw [← hAe]; exact Or.inr h
  have hS : va_S A s.heap s.heap [] := va_S.rf
  have hl : lv_has ls 4 [(0, .ref ob), (1, .int (nI k)), (2, .int sj)] := hl
  have hi4 : ∀ w ∈ u_ws RX4 TX4 10, w ∈ wsX4_sweep := by decide +kernel
  have f32 := hts (.fieldLink RX4 32 "SweptBoxes" "traces" "[LSweptBoxes$Trace;") (by decide +kernel)
  have f166 := hts (.fieldLink RX4 166 "SweptBoxes" "traceCount" "I") (by decide +kernel)
  refine lv_iload_n hx hb dX4_sweep_0 rfl (lv_at hl 1 rfl) ?_
  refine lv_aload_n hx hb dX4_sweep_1 rfl (lv_at hl 0 rfl) ?_
  refine va_get (D := (dC, dI)) (ci := 4) (v := .int (nI nt)) (C := RX4) (T := TX4) (N := 10) hx hb hts hi4 hown hK hP 0 rfl rfl 7 (by decide) f166 (fun _ h9 => h9) rfl dX4_sweep_2 ?_
  refine kmSv (As := [.int (nI k), .int (nI nt)]) (rest := []) (WC := []) (W2 := []) (WR := [(ob, .inr (4, [.ref ahl, .int (nI nh), .ref abl, .int (nI nb), .ref asr, .ref pb, .ref atr, .int (nI nt), .ref tb, .ref mt])), (atr, .inl (cT, 8, .inr (.inr (.inr (.inr ftr))))), (tr, .inr (3, [.long zx, .long zy, .int (axI zk), .int (mI zmo), .long zup, .long zlo]))]) (WN := [(ob, .inr (4, [.ref ahl, .int (nI nh), .ref abl, .int (nI nb), .ref asr, .ref pb, .ref atr, .int (nI nt), .ref tb, .ref mt])), (atr, .inl (cT, 8, .inr (.inr (.inr (.inr ftr))))), (tr, .inr (3, [.long zx, .long zy, .int (axI zk), .int (mI zmo), .long zup, .long zlo]))]) (tyC := []) (isC := []) (isR := [0, 1, 2]) (isN := [0, 1, 2]) (its := []) ⟨hx, hb, hml, hown, hts⟩ (tX4_needIndex_o l dC dI k nt (by omega) (by omega)) (va_cwS 2 hts gX4_sweep_X4_needIndex rfl rfl rfl (by decide +kernel) ⟨Nat.le_of_ble_eq_true rfl, Nat.le_of_ble_eq_true rfl⟩) hP hD hA hS hK rfl (by decide) rfl (by decide) (by decide) rfl (by decide) rfl rfl rfl hl.1 (Nat.le_of_ble_eq_true rfl) dX4_sweep_5 ⟨Nat.le_of_ble_eq_true rfl, Nat.le_of_ble_eq_true rfl⟩ (fun H locs hP hD hS => ?_)
  refine lv_aload_n hx hb dX4_sweep_8 rfl (lv_at hl 0 rfl) ?_
  refine va_get (D := (dC, dI)) (ci := 4) (v := .ref atr) (C := RX4) (T := TX4) (N := 10) hx hb hts hi4 hown hK hP 0 rfl rfl 6 (by decide) f32 (fun _ h9 => h9) rfl dX4_sweep_9 ?_
  refine lv_iload_n hx hb dX4_sweep_12 rfl (lv_at hl 1 rfl) ?_
  refine va_aldq hx hb hK hP 1 0 rfl rfl (vp_in_nI (show k < 8 by omega) (by omega)) dX4_sweep_13 ?_
  rw [show (nI k).toNatClampNeg = k from nI_clamp (show k < 2 ^ 31 by omega)]
  rw [show (ftr k) = some tr from hh]
  refine lv_astore_n (lv' := [(3, .ref tr), (0, .ref ob), (1, .int (nI k)), (2, .int sj)]) hx hb dX4_sweep_14 rfl hl (by decide) rfl (fun ls hl => ?_)
  refine lv_iload_n hx hb dX4_sweep_15 rfl (lv_at hl 3 rfl) ?_
  refine lv_tableOut (tgt := 88) hx hb dX4_sweep_16 (sw_out (by decide) hbad) (by decide) ?_
  exact kThrow (u := ()) (is := 181) (rest := []) hx hb hlt hown (by decide +kernel) (by decide +kernel) (by decide +kernel) (hts (.classLink RX4 179 "java/lang/IndexOutOfBoundsException") (by decide +kernel)) (hts (.initialized "java/lang/IndexOutOfBoundsException") (by decide +kernel)) (List.mem_of_getElem? (i := 7) rfl) (fun w h => hts w (xin_X4_sweep_183 w h)) xbad_183 xgood_183 hT hS (hl.1.trans hml.symm) dX4_sweep_88 dX4_sweep_91 dX4_sweep_92 dX4_sweep_94 dX4_sweep_97 htab (Nat.lt_of_lt_of_le (by decide) (Nat.le_of_ble_eq_true rfl : 6 ≤ _)) (Nat.le_of_ble_eq_true rfl) (Nat.le_of_ble_eq_true rfl) (Nat.le_of_ble_eq_true rfl) hlocks hP hK hD
