theorem bI_inj {a b : Bool} (h : bI a = bI b) : a = b := by cases a <;> cases b <;> first | rfl | (exact absurd h (by decide))
theorem ir_b {x : Int64} (h : -10000 ≤ x ∧ x ≤ 10000) : -10000 ≤ x.toInt ∧ x.toInt ≤ 10000 := by
  obtain ⟨h1, h2⟩ := h
  rw [Int64.le_iff_toInt_le] at h1 h2
  exact ⟨h1, h2⟩
theorem ir_m {x : Int64} (h : -10000 ≤ x ∧ x ≤ 10000) : -1000000 ≤ x.toInt ∧ x.toInt ≤ 1000000 := by have := ir_b h; omega
theorem sd_b {w : Int64} (h1 : 1 ≤ w) (h2 : w ≤ 64) : 1 ≤ w.toInt ∧ w.toInt ≤ 64 := by
  rw [Int64.le_iff_toInt_le] at h1 h2
  exact ⟨h1, h2⟩
theorem ir_s {x w : Int64} (h : -10000 ≤ x ∧ x ≤ 10000) (h1 : 1 ≤ w) (h2 : w ≤ 64) : -1000000 ≤ (x + w).toInt ∧ (x + w).toInt ≤ 1000000 := by
  have a := ir_b h
  have b := sd_b h1 h2
  rw [tI_add (by omega) (by omega)]; omega
set_option maxHeartbeats 4000000 in
set_option maxRecDepth 100000 in
theorem tX4_at_o0 (l : Launch) (dC : Nat → ClassId) (dI : Nat → Nat → Nat) (ob ahl nh abl nb asr pb atr nt tb mt : Nat) (px0 py0 px1 py1 pdx pdy : Int64)  : PMl l yX4_at wsX4_at { frames := 0, cells := 0, slots := 0, locals := 0 } [.ref ob, .int (nI 0)] (dC, dI) [(ob, .inr (4, [.ref ahl, .int (nI nh), .ref abl, .int (nI nb), .ref asr, .ref pb, .ref atr, .int (nI nt), .ref tb, .ref mt])), (pb, .inr (0, [.long px0, .long py0, .long px1, .long py1, .long pdx, .long pdy]))] [] (px0) := by
  refine kOf (cc := cX4_at) (maxL := 2) (ret := (some .long)) (by decide) rfl (Nat.le_of_ble_eq_true rfl) ?_
  intro p e s m below meth c hx hb hr hml hts hown hlocks hB ls hl
  obtain ⟨hP, hK⟩ := hB
  have hl : lv_has ls 2 [(0, .ref ob), (1, .int (nI 0))] := hl
  have hi0 : ∀ w ∈ u_ws RX0 TX0 6, w ∈ wsX4_at := by decide +kernel
  have hi4 : ∀ w ∈ u_ws RX4 TX4 10, w ∈ wsX4_at := by decide +kernel
  have f26 := hts (.fieldLink RX4 26 "SweptBoxes" "playerBox" "LSweptBoxes$Block;") (by decide +kernel)
  have f158 := hts (.fieldLink RX4 158 "SweptBoxes$Block" "x0" "J") (by decide +kernel)
  refine lv_iload_n hx hb dX4_at_0 rfl (lv_at hl 1 rfl) ?_
  refine lv_tableIn (off := 31) (tgt := 32) hx hb dX4_at_1 (by decide) (by decide) (by decide) (by decide) ?_
  refine lv_aload_n hx hb dX4_at_32 rfl (lv_at hl 0 rfl) ?_
  refine va_get (D := (dC, dI)) (ci := 4) (v := .ref pb) (C := RX4) (T := TX4) (N := 10) hx hb hts hi4 hown hK hP 0 rfl rfl 5 (by decide) f26 (fun _ h9 => h9) rfl dX4_at_33 ?_
  refine va_get (D := (dC, dI)) (ci := 0) (v := .long px0) (C := RX0) (T := TX0) (N := 6) hx hb hts hi0 hown hK hP 1 rfl rfl 0 (by decide) f158 (fun _ h9 => h9) rfl dX4_at_36 ?_
  exact kRl hx hb hr hlocks dX4_at_39 rfl

set_option maxHeartbeats 4000000 in
set_option maxRecDepth 100000 in
theorem tX4_at_o1 (l : Launch) (dC : Nat → ClassId) (dI : Nat → Nat → Nat) (ob ahl nh abl nb asr pb atr nt tb mt : Nat) (px0 py0 px1 py1 pdx pdy : Int64)  : PMl l yX4_at wsX4_at { frames := 0, cells := 0, slots := 0, locals := 0 } [.ref ob, .int (nI 1)] (dC, dI) [(ob, .inr (4, [.ref ahl, .int (nI nh), .ref abl, .int (nI nb), .ref asr, .ref pb, .ref atr, .int (nI nt), .ref tb, .ref mt])), (pb, .inr (0, [.long px0, .long py0, .long px1, .long py1, .long pdx, .long pdy]))] [] (py0) := by
  refine kOf (cc := cX4_at) (maxL := 2) (ret := (some .long)) (by decide) rfl (Nat.le_of_ble_eq_true rfl) ?_
  intro p e s m below meth c hx hb hr hml hts hown hlocks hB ls hl
  obtain ⟨hP, hK⟩ := hB
  have hl : lv_has ls 2 [(0, .ref ob), (1, .int (nI 1))] := hl
  have hi0 : ∀ w ∈ u_ws RX0 TX0 6, w ∈ wsX4_at := by decide +kernel
  have hi4 : ∀ w ∈ u_ws RX4 TX4 10, w ∈ wsX4_at := by decide +kernel
  have f26 := hts (.fieldLink RX4 26 "SweptBoxes" "playerBox" "LSweptBoxes$Block;") (by decide +kernel)
  have f161 := hts (.fieldLink RX4 161 "SweptBoxes$Block" "y0" "J") (by decide +kernel)
  refine lv_iload_n hx hb dX4_at_0 rfl (lv_at hl 1 rfl) ?_
  refine lv_tableIn (off := 39) (tgt := 40) hx hb dX4_at_1 (by decide) (by decide) (by decide) (by decide) ?_
  refine lv_aload_n hx hb dX4_at_40 rfl (lv_at hl 0 rfl) ?_
  refine va_get (D := (dC, dI)) (ci := 4) (v := .ref pb) (C := RX4) (T := TX4) (N := 10) hx hb hts hi4 hown hK hP 0 rfl rfl 5 (by decide) f26 (fun _ h9 => h9) rfl dX4_at_41 ?_
  refine va_get (D := (dC, dI)) (ci := 0) (v := .long py0) (C := RX0) (T := TX0) (N := 6) hx hb hts hi0 hown hK hP 1 rfl rfl 1 (by decide) f161 (fun _ h9 => h9) rfl dX4_at_44 ?_
  exact kRl hx hb hr hlocks dX4_at_47 rfl

set_option maxHeartbeats 4000000 in
set_option maxRecDepth 100000 in
theorem tX4_at_o2 (l : Launch) (dC : Nat → ClassId) (dI : Nat → Nat → Nat) (ob ahl nh abl nb asr pb atr nt tb mt : Nat) (px0 py0 px1 py1 pdx pdy : Int64)  : PMl l yX4_at wsX4_at { frames := 0, cells := 0, slots := 0, locals := 0 } [.ref ob, .int (nI 2)] (dC, dI) [(ob, .inr (4, [.ref ahl, .int (nI nh), .ref abl, .int (nI nb), .ref asr, .ref pb, .ref atr, .int (nI nt), .ref tb, .ref mt])), (pb, .inr (0, [.long px0, .long py0, .long px1, .long py1, .long pdx, .long pdy]))] [] (px1 - px0) := by
  refine kOf (cc := cX4_at) (maxL := 2) (ret := (some .long)) (by decide) rfl (Nat.le_of_ble_eq_true rfl) ?_
  intro p e s m below meth c hx hb hr hml hts hown hlocks hB ls hl
  obtain ⟨hP, hK⟩ := hB
  have hl : lv_has ls 2 [(0, .ref ob), (1, .int (nI 2))] := hl
  have hi0 : ∀ w ∈ u_ws RX0 TX0 6, w ∈ wsX4_at := by decide +kernel
  have hi4 : ∀ w ∈ u_ws RX4 TX4 10, w ∈ wsX4_at := by decide +kernel
  have f26 := hts (.fieldLink RX4 26 "SweptBoxes" "playerBox" "LSweptBoxes$Block;") (by decide +kernel)
  have f158 := hts (.fieldLink RX4 158 "SweptBoxes$Block" "x0" "J") (by decide +kernel)
  have f173 := hts (.fieldLink RX4 173 "SweptBoxes$Block" "x1" "J") (by decide +kernel)
  refine lv_iload_n hx hb dX4_at_0 rfl (lv_at hl 1 rfl) ?_
  refine lv_tableIn (off := 47) (tgt := 48) hx hb dX4_at_1 (by decide) (by decide) (by decide) (by decide) ?_
  refine lv_aload_n hx hb dX4_at_48 rfl (lv_at hl 0 rfl) ?_
  refine va_get (D := (dC, dI)) (ci := 4) (v := .ref pb) (C := RX4) (T := TX4) (N := 10) hx hb hts hi4 hown hK hP 0 rfl rfl 5 (by decide) f26 (fun _ h9 => h9) rfl dX4_at_49 ?_
  refine va_get (D := (dC, dI)) (ci := 0) (v := .long px1) (C := RX0) (T := TX0) (N := 6) hx hb hts hi0 hown hK hP 1 rfl rfl 2 (by decide) f173 (fun _ h9 => h9) rfl dX4_at_52 ?_
  refine lv_aload_n hx hb dX4_at_55 rfl (lv_at hl 0 rfl) ?_
  refine va_get (D := (dC, dI)) (ci := 4) (v := .ref pb) (C := RX4) (T := TX4) (N := 10) hx hb hts hi4 hown hK hP 0 rfl rfl 5 (by decide) f26 (fun _ h9 => h9) rfl dX4_at_56 ?_
  refine va_get (D := (dC, dI)) (ci := 0) (v := .long px0) (C := RX0) (T := TX0) (N := 6) hx hb hts hi0 hown hK hP 1 rfl rfl 0 (by decide) f158 (fun _ h9 => h9) rfl dX4_at_59 ?_
  refine lv_lsub hx hb dX4_at_62 ?_
  exact kRl hx hb hr hlocks dX4_at_63 rfl

set_option maxHeartbeats 4000000 in
set_option maxRecDepth 100000 in
theorem tX4_at_o3 (l : Launch) (dC : Nat → ClassId) (dI : Nat → Nat → Nat) (ob ahl nh abl nb asr pb atr nt tb mt : Nat) (px0 py0 px1 py1 pdx pdy : Int64)  : PMl l yX4_at wsX4_at { frames := 0, cells := 0, slots := 0, locals := 0 } [.ref ob, .int (nI 3)] (dC, dI) [(ob, .inr (4, [.ref ahl, .int (nI nh), .ref abl, .int (nI nb), .ref asr, .ref pb, .ref atr, .int (nI nt), .ref tb, .ref mt])), (pb, .inr (0, [.long px0, .long py0, .long px1, .long py1, .long pdx, .long pdy]))] [] (py1 - py0) := by
  refine kOf (cc := cX4_at) (maxL := 2) (ret := (some .long)) (by decide) rfl (Nat.le_of_ble_eq_true rfl) ?_
  intro p e s m below meth c hx hb hr hml hts hown hlocks hB ls hl
  obtain ⟨hP, hK⟩ := hB
  have hl : lv_has ls 2 [(0, .ref ob), (1, .int (nI 3))] := hl
  have hi0 : ∀ w ∈ u_ws RX0 TX0 6, w ∈ wsX4_at := by decide +kernel
  have hi4 : ∀ w ∈ u_ws RX4 TX4 10, w ∈ wsX4_at := by decide +kernel
  have f26 := hts (.fieldLink RX4 26 "SweptBoxes" "playerBox" "LSweptBoxes$Block;") (by decide +kernel)
  have f161 := hts (.fieldLink RX4 161 "SweptBoxes$Block" "y0" "J") (by decide +kernel)
  have f176 := hts (.fieldLink RX4 176 "SweptBoxes$Block" "y1" "J") (by decide +kernel)
  refine lv_iload_n hx hb dX4_at_0 rfl (lv_at hl 1 rfl) ?_
  refine lv_tableIn (off := 63) (tgt := 64) hx hb dX4_at_1 (by decide) (by decide) (by decide) (by decide) ?_
  refine lv_aload_n hx hb dX4_at_64 rfl (lv_at hl 0 rfl) ?_
  refine va_get (D := (dC, dI)) (ci := 4) (v := .ref pb) (C := RX4) (T := TX4) (N := 10) hx hb hts hi4 hown hK hP 0 rfl rfl 5 (by decide) f26 (fun _ h9 => h9) rfl dX4_at_65 ?_
  refine va_get (D := (dC, dI)) (ci := 0) (v := .long py1) (C := RX0) (T := TX0) (N := 6) hx hb hts hi0 hown hK hP 1 rfl rfl 3 (by decide) f176 (fun _ h9 => h9) rfl dX4_at_68 ?_
  refine lv_aload_n hx hb dX4_at_71 rfl (lv_at hl 0 rfl) ?_
  refine va_get (D := (dC, dI)) (ci := 4) (v := .ref pb) (C := RX4) (T := TX4) (N := 10) hx hb hts hi4 hown hK hP 0 rfl rfl 5 (by decide) f26 (fun _ h9 => h9) rfl dX4_at_72 ?_
  refine va_get (D := (dC, dI)) (ci := 0) (v := .long py0) (C := RX0) (T := TX0) (N := 6) hx hb hts hi0 hown hK hP 1 rfl rfl 1 (by decide) f161 (fun _ h9 => h9) rfl dX4_at_75 ?_
  refine lv_lsub hx hb dX4_at_78 ?_
  exact kRl hx hb hr hlocks dX4_at_79 rfl

set_option maxHeartbeats 4000000 in
set_option maxRecDepth 100000 in
theorem tX4_sweep_o0 (l : Launch) (dC : Nat → ClassId) (dI : Nat → Nat → Nat) (cT : ClassId) (ob ahl nh abl nb asr pb atr nt tb mt : Nat) (ftr : Nat → Option Nat) (tr : Nat) (zx zy : Int64) (zk : Nat) (zmo : Option Nat) (zup zlo : Int64) (k : Nat) (hk : k < nt) (hn : nt ≤ 8) (hh : ftr k = some tr) : MMl l yX4_sweep wsX4_sweep { frames := 1, cells := 0, slots := 0, locals := 21 } [.ref ob, .int (nI k), .int (nI 0)] (dC, dI) [(ob, .inr (4, [.ref ahl, .int (nI nh), .ref abl, .int (nI nb), .ref asr, .ref pb, .ref atr, .int (nI nt), .ref tb, .ref mt])), (atr, .inl (cT, 8, .inr (.inr (.inr (.inr ftr))))), (tr, .inr (3, [.long zx, .long zy, .int (axI zk), .int (mI zmo), .long zup, .long zlo]))] [(ob, .inr (4, [.ref ahl, .int (nI nh), .ref abl, .int (nI nb), .ref asr, .ref pb, .ref atr, .int (nI nt), .ref tb, .ref mt])), (atr, .inl (cT, 8, .inr (.inr (.inr (.inr ftr))))), (tr, .inr (3, [.long zx, .long zy, .int (axI zk), .int (mI zmo), .long zup, .long zlo]))] [(cT, .object "SweptBoxes$Trace")] (zx) := by
  intro sz
  refine kOf (cc := cX4_sweep) (maxL := 4) (ret := (some .long)) (by decide) rfl (Nat.le_of_ble_eq_true rfl) ?_
  intro p e s m below meth c hx hb hr hml hts hown hlocks hB ls hl
  obtain ⟨hsz, hP, hK, hD0⟩ := hB
  subst hsz
  have hD := hD0.self (sz := s.heap.size)
  generalize hAe : va_A [(ob, .inr (4, [.ref ahl, .int (nI nh), .ref abl, .int (nI nb), .ref asr, .ref pb, .ref atr, .int (nI nt), .ref tb, .ref mt])), (atr, .inl (cT, 8, .inr (.inr (.inr (.inr ftr))))), (tr, .inr (3, [.long zx, .long zy, .int (axI zk), .int (mI zmo), .long zup, .long zlo]))] s.heap.size = A at hD ⊢
  have hA : ∀ q : Nat, s.heap.size ≤ q → A q := fun q h => by rw [← hAe]; exact Or.inr h
  have hS : va_S A s.heap s.heap [] := va_S.rf
  have hl : lv_has ls 4 [(0, .ref ob), (1, .int (nI k)), (2, .int (nI 0))] := hl
  have hi3 : ∀ w ∈ u_ws RX3 TX3 6, w ∈ wsX4_sweep := by decide +kernel
  have hi4 : ∀ w ∈ u_ws RX4 TX4 10, w ∈ wsX4_sweep := by decide +kernel
  have f32 := hts (.fieldLink RX4 32 "SweptBoxes" "traces" "[LSweptBoxes$Trace;") (by decide +kernel)
  have f166 := hts (.fieldLink RX4 166 "SweptBoxes" "traceCount" "I") (by decide +kernel)
  have f184 := hts (.fieldLink RX4 184 "SweptBoxes$Trace" "x" "J") (by decide +kernel)
  refine lv_iload_n hx hb dX4_sweep_0 rfl (lv_at hl 1 rfl) ?_
  refine lv_aload_n hx hb dX4_sweep_1 rfl (lv_at hl 0 rfl) ?_
  refine va_get (D := (dC, dI)) (ci := 4) (v := .int (nI nt)) (C := RX4) (T := TX4) (N := 10) hx hb hts hi4 hown hK hP 0 rfl rfl 7 (by decide) f166 (fun _ h9 => h9) rfl dX4_sweep_2 ?_
  refine kmSv (As := [.int (nI k), .int (nI nt)]) (rest := []) (WC := []) (W2 := []) (WR := [(ob, .inr (4, [.ref ahl, .int (nI nh), .ref abl, .int (nI nb), .ref asr, .ref pb, .ref atr, .int (nI nt), .ref tb, .ref mt])), (atr, .inl (cT, 8, .inr (.inr (.inr (.inr ftr))))), (tr, .inr (3, [.long zx, .long zy, .int (axI zk), .int (mI zmo), .long zup, .long zlo]))]) (WN := [(ob, .inr (4, [.ref ahl, .int (nI nh), .ref abl, .int (nI nb), .ref asr, .ref pb, .ref atr, .int (nI nt), .ref tb, .ref mt])), (atr, .inl (cT, 8, .inr (.inr (.inr (.inr ftr))))), (tr, .inr (3, [.long zx, .long zy, .int (axI zk), .int (mI zmo), .long zup, .long zlo]))]) (tyC := []) (isC := []) (isR := [0, 1, 2]) (isN := [0, 1, 2]) (its := []) ⟨hx, hb, hml, hown, hts⟩ (tX4_needIndex_o l dC dI k nt (by omega) (by omega)) (va_cwS 2 hts gX4_sweep_X4_needIndex rfl rfl rfl (by decide +kernel) ⟨Nat.le_of_ble_eq_true rfl, Nat.le_of_ble_eq_true rfl⟩) hP hD hA hS hK rfl (by decide) rfl (by decide) (by decide) rfl (by decide) rfl rfl rfl hl.1 (Nat.le_of_ble_eq_true rfl) dX4_sweep_5 ⟨Nat.le_of_ble_eq_true rfl, Nat.le_of_ble_eq_true rfl⟩ (fun H locs hP hD hS => ?_)
  refine lv_aload_n hx hb dX4_sweep_8 rfl (lv_at hl 0 rfl) ?_
  refine va_get (D := (dC, dI)) (ci := 4) (v := .ref atr) (C := RX4) (T := TX4) (N := 10) hx hb hts hi4 hown hK hP 0 rfl rfl 6 (by decide) f32 (fun _ h9 => h9) rfl dX4_sweep_9 ?_
  refine lv_iload_n hx hb dX4_sweep_12 rfl (lv_at hl 1 rfl) ?_
  refine va_aldq hx hb hK hP 1 0 rfl rfl (vp_in_nI (show k < 8 by omega) (by omega)) dX4_sweep_13 ?_
  rw [show (nI k).toNatClampNeg = k from nI_clamp (show k < 2 ^ 31 by omega)]
  rw [show (ftr k) = some tr from hh]
  refine lv_astore_n (lv' := [(3, .ref tr), (0, .ref ob), (1, .int (nI k)), (2, .int (nI 0))]) hx hb dX4_sweep_14 rfl hl (by decide) rfl (fun ls hl => ?_)
  refine lv_iload_n hx hb dX4_sweep_15 rfl (lv_at hl 3 rfl) ?_
  refine lv_tableIn (off := 40) (tgt := 56) hx hb dX4_sweep_16 (by decide) (by decide) (by decide) (by decide) ?_
  refine lv_aload_n hx hb dX4_sweep_56 rfl (lv_at hl 0 rfl) ?_
  refine va_get (D := (dC, dI)) (ci := 3) (v := .long zx) (C := RX3) (T := TX3) (N := 6) hx hb hts hi3 hown hK hP 2 rfl rfl 0 (by decide) f184 (fun _ h9 => h9) rfl dX4_sweep_57 ?_
  exact kEl hx hb hr hlocks hP hK hD hS dX4_sweep_60 rfl

set_option maxHeartbeats 4000000 in
set_option maxRecDepth 100000 in
theorem tX4_sweep_o1 (l : Launch) (dC : Nat → ClassId) (dI : Nat → Nat → Nat) (cT : ClassId) (ob ahl nh abl nb asr pb atr nt tb mt : Nat) (ftr : Nat → Option Nat) (tr : Nat) (zx zy : Int64) (zk : Nat) (zmo : Option Nat) (zup zlo : Int64) (k : Nat) (hk : k < nt) (hn : nt ≤ 8) (hh : ftr k = some tr) : MMl l yX4_sweep wsX4_sweep { frames := 1, cells := 0, slots := 0, locals := 21 } [.ref ob, .int (nI k), .int (nI 1)] (dC, dI) [(ob, .inr (4, [.ref ahl, .int (nI nh), .ref abl, .int (nI nb), .ref asr, .ref pb, .ref atr, .int (nI nt), .ref tb, .ref mt])), (atr, .inl (cT, 8, .inr (.inr (.inr (.inr ftr))))), (tr, .inr (3, [.long zx, .long zy, .int (axI zk), .int (mI zmo), .long zup, .long zlo]))] [(ob, .inr (4, [.ref ahl, .int (nI nh), .ref abl, .int (nI nb), .ref asr, .ref pb, .ref atr, .int (nI nt), .ref tb, .ref mt])), (atr, .inl (cT, 8, .inr (.inr (.inr (.inr ftr))))), (tr, .inr (3, [.long zx, .long zy, .int (axI zk), .int (mI zmo), .long zup, .long zlo]))] [(cT, .object "SweptBoxes$Trace")] (zy) := by
  intro sz
  refine kOf (cc := cX4_sweep) (maxL := 4) (ret := (some .long)) (by decide) rfl (Nat.le_of_ble_eq_true rfl) ?_
  intro p e s m below meth c hx hb hr hml hts hown hlocks hB ls hl
  obtain ⟨hsz, hP, hK, hD0⟩ := hB
  subst hsz
  have hD := hD0.self (sz := s.heap.size)
  generalize hAe : va_A [(ob, .inr (4, [.ref ahl, .int (nI nh), .ref abl, .int (nI nb), .ref asr, .ref pb, .ref atr, .int (nI nt), .ref tb, .ref mt])), (atr, .inl (cT, 8, .inr (.inr (.inr (.inr ftr))))), (tr, .inr (3, [.long zx, .long zy, .int (axI zk), .int (mI zmo), .long zup, .long zlo]))] s.heap.size = A at hD ⊢
  have hA : ∀ q : Nat, s.heap.size ≤ q → A q := fun q h => by rw [← hAe]; exact Or.inr h
  have hS : va_S A s.heap s.heap [] := va_S.rf
  have hl : lv_has ls 4 [(0, .ref ob), (1, .int (nI k)), (2, .int (nI 1))] := hl
  have hi3 : ∀ w ∈ u_ws RX3 TX3 6, w ∈ wsX4_sweep := by decide +kernel
  have hi4 : ∀ w ∈ u_ws RX4 TX4 10, w ∈ wsX4_sweep := by decide +kernel
  have f32 := hts (.fieldLink RX4 32 "SweptBoxes" "traces" "[LSweptBoxes$Trace;") (by decide +kernel)
  have f166 := hts (.fieldLink RX4 166 "SweptBoxes" "traceCount" "I") (by decide +kernel)
  have f187 := hts (.fieldLink RX4 187 "SweptBoxes$Trace" "y" "J") (by decide +kernel)
  refine lv_iload_n hx hb dX4_sweep_0 rfl (lv_at hl 1 rfl) ?_
  refine lv_aload_n hx hb dX4_sweep_1 rfl (lv_at hl 0 rfl) ?_
  refine va_get (D := (dC, dI)) (ci := 4) (v := .int (nI nt)) (C := RX4) (T := TX4) (N := 10) hx hb hts hi4 hown hK hP 0 rfl rfl 7 (by decide) f166 (fun _ h9 => h9) rfl dX4_sweep_2 ?_
  refine kmSv (As := [.int (nI k), .int (nI nt)]) (rest := []) (WC := []) (W2 := []) (WR := [(ob, .inr (4, [.ref ahl, .int (nI nh), .ref abl, .int (nI nb), .ref asr, .ref pb, .ref atr, .int (nI nt), .ref tb, .ref mt])), (atr, .inl (cT, 8, .inr (.inr (.inr (.inr ftr))))), (tr, .inr (3, [.long zx, .long zy, .int (axI zk), .int (mI zmo), .long zup, .long zlo]))]) (WN := [(ob, .inr (4, [.ref ahl, .int (nI nh), .ref abl, .int (nI nb), .ref asr, .ref pb, .ref atr, .int (nI nt), .ref tb, .ref mt])), (atr, .inl (cT, 8, .inr (.inr (.inr (.inr ftr))))), (tr, .inr (3, [.long zx, .long zy, .int (axI zk), .int (mI zmo), .long zup, .long zlo]))]) (tyC := []) (isC := []) (isR := [0, 1, 2]) (isN := [0, 1, 2]) (its := []) ⟨hx, hb, hml, hown, hts⟩ (tX4_needIndex_o l dC dI k nt (by omega) (by omega)) (va_cwS 2 hts gX4_sweep_X4_needIndex rfl rfl rfl (by decide +kernel) ⟨Nat.le_of_ble_eq_true rfl, Nat.le_of_ble_eq_true rfl⟩) hP hD hA hS hK rfl (by decide) rfl (by decide) (by decide) rfl (by decide) rfl rfl rfl hl.1 (Nat.le_of_ble_eq_true rfl) dX4_sweep_5 ⟨Nat.le_of_ble_eq_true rfl, Nat.le_of_ble_eq_true rfl⟩ (fun H locs hP hD hS => ?_)
  refine lv_aload_n hx hb dX4_sweep_8 rfl (lv_at hl 0 rfl) ?_
  refine va_get (D := (dC, dI)) (ci := 4) (v := .ref atr) (C := RX4) (T := TX4) (N := 10) hx hb hts hi4 hown hK hP 0 rfl rfl 6 (by decide) f32 (fun _ h9 => h9) rfl dX4_sweep_9 ?_
  refine lv_iload_n hx hb dX4_sweep_12 rfl (lv_at hl 1 rfl) ?_
  refine va_aldq hx hb hK hP 1 0 rfl rfl (vp_in_nI (show k < 8 by omega) (by omega)) dX4_sweep_13 ?_
  rw [show (nI k).toNatClampNeg = k from nI_clamp (show k < 2 ^ 31 by omega)]
  rw [show (ftr k) = some tr from hh]
  refine lv_astore_n (lv' := [(3, .ref tr), (0, .ref ob), (1, .int (nI k)), (2, .int (nI 1))]) hx hb dX4_sweep_14 rfl hl (by decide) rfl (fun ls hl => ?_)
  refine lv_iload_n hx hb dX4_sweep_15 rfl (lv_at hl 3 rfl) ?_
  refine lv_tableIn (off := 45) (tgt := 61) hx hb dX4_sweep_16 (by decide) (by decide) (by decide) (by decide) ?_
  refine lv_aload_n hx hb dX4_sweep_61 rfl (lv_at hl 0 rfl) ?_
  refine va_get (D := (dC, dI)) (ci := 3) (v := .long zy) (C := RX3) (T := TX3) (N := 6) hx hb hts hi3 hown hK hP 2 rfl rfl 1 (by decide) f187 (fun _ h9 => h9) rfl dX4_sweep_62 ?_
  exact kEl hx hb hr hlocks hP hK hD hS dX4_sweep_65 rfl

set_option maxHeartbeats 4000000 in
set_option maxRecDepth 100000 in
theorem tX4_sweep_o2 (l : Launch) (dC : Nat → ClassId) (dI : Nat → Nat → Nat) (cT : ClassId) (ob ahl nh abl nb asr pb atr nt tb mt : Nat) (ftr : Nat → Option Nat) (tr : Nat) (zx zy : Int64) (zk : Nat) (zmo : Option Nat) (zup zlo : Int64) (k : Nat) (hk : k < nt) (hn : nt ≤ 8) (hh : ftr k = some tr) : MMl l yX4_sweep wsX4_sweep { frames := 1, cells := 0, slots := 0, locals := 21 } [.ref ob, .int (nI k), .int (nI 2)] (dC, dI) [(ob, .inr (4, [.ref ahl, .int (nI nh), .ref abl, .int (nI nb), .ref asr, .ref pb, .ref atr, .int (nI nt), .ref tb, .ref mt])), (atr, .inl (cT, 8, .inr (.inr (.inr (.inr ftr))))), (tr, .inr (3, [.long zx, .long zy, .int (axI zk), .int (mI zmo), .long zup, .long zlo]))] [(ob, .inr (4, [.ref ahl, .int (nI nh), .ref abl, .int (nI nb), .ref asr, .ref pb, .ref atr, .int (nI nt), .ref tb, .ref mt])), (atr, .inl (cT, 8, .inr (.inr (.inr (.inr ftr))))), (tr, .inr (3, [.long zx, .long zy, .int (axI zk), .int (mI zmo), .long zup, .long zlo]))] [(cT, .object "SweptBoxes$Trace")] ((axI zk).toInt64) := by
  intro sz
  refine kOf (cc := cX4_sweep) (maxL := 4) (ret := (some .long)) (by decide) rfl (Nat.le_of_ble_eq_true rfl) ?_
  intro p e s m below meth c hx hb hr hml hts hown hlocks hB ls hl
  obtain ⟨hsz, hP, hK, hD0⟩ := hB
  subst hsz
  have hD := hD0.self (sz := s.heap.size)
  generalize hAe : va_A [(ob, .inr (4, [.ref ahl, .int (nI nh), .ref abl, .int (nI nb), .ref asr, .ref pb, .ref atr, .int (nI nt), .ref tb, .ref mt])), (atr, .inl (cT, 8, .inr (.inr (.inr (.inr ftr))))), (tr, .inr (3, [.long zx, .long zy, .int (axI zk), .int (mI zmo), .long zup, .long zlo]))] s.heap.size = A at hD ⊢
  have hA : ∀ q : Nat, s.heap.size ≤ q → A q := fun q h => by rw [← hAe]; exact Or.inr h
  have hS : va_S A s.heap s.heap [] := va_S.rf
  have hl : lv_has ls 4 [(0, .ref ob), (1, .int (nI k)), (2, .int (nI 2))] := hl
  have hi3 : ∀ w ∈ u_ws RX3 TX3 6, w ∈ wsX4_sweep := by decide +kernel
  have hi4 : ∀ w ∈ u_ws RX4 TX4 10, w ∈ wsX4_sweep := by decide +kernel
  have f32 := hts (.fieldLink RX4 32 "SweptBoxes" "traces" "[LSweptBoxes$Trace;") (by decide +kernel)
  have f166 := hts (.fieldLink RX4 166 "SweptBoxes" "traceCount" "I") (by decide +kernel)
  have f190 := hts (.fieldLink RX4 190 "SweptBoxes$Trace" "axis" "I") (by decide +kernel)
  refine lv_iload_n hx hb dX4_sweep_0 rfl (lv_at hl 1 rfl) ?_
  refine lv_aload_n hx hb dX4_sweep_1 rfl (lv_at hl 0 rfl) ?_
  refine va_get (D := (dC, dI)) (ci := 4) (v := .int (nI nt)) (C := RX4) (T := TX4) (N := 10) hx hb hts hi4 hown hK hP 0 rfl rfl 7 (by decide) f166 (fun _ h9 => h9) rfl dX4_sweep_2 ?_
  refine kmSv (As := [.int (nI k), .int (nI nt)]) (rest := []) (WC := []) (W2 := []) (WR := [(ob, .inr (4, [.ref ahl, .int (nI nh), .ref abl, .int (nI nb), .ref asr, .ref pb, .ref atr, .int (nI nt), .ref tb, .ref mt])), (atr, .inl (cT, 8, .inr (.inr (.inr (.inr ftr))))), (tr, .inr (3, [.long zx, .long zy, .int (axI zk), .int (mI zmo), .long zup, .long zlo]))]) (WN := [(ob, .inr (4, [.ref ahl, .int (nI nh), .ref abl, .int (nI nb), .ref asr, .ref pb, .ref atr, .int (nI nt), .ref tb, .ref mt])), (atr, .inl (cT, 8, .inr (.inr (.inr (.inr ftr))))), (tr, .inr (3, [.long zx, .long zy, .int (axI zk), .int (mI zmo), .long zup, .long zlo]))]) (tyC := []) (isC := []) (isR := [0, 1, 2]) (isN := [0, 1, 2]) (its := []) ⟨hx, hb, hml, hown, hts⟩ (tX4_needIndex_o l dC dI k nt (by omega) (by omega)) (va_cwS 2 hts gX4_sweep_X4_needIndex rfl rfl rfl (by decide +kernel) ⟨Nat.le_of_ble_eq_true rfl, Nat.le_of_ble_eq_true rfl⟩) hP hD hA hS hK rfl (by decide) rfl (by decide) (by decide) rfl (by decide) rfl rfl rfl hl.1 (Nat.le_of_ble_eq_true rfl) dX4_sweep_5 ⟨Nat.le_of_ble_eq_true rfl, Nat.le_of_ble_eq_true rfl⟩ (fun H locs hP hD hS => ?_)
  refine lv_aload_n hx hb dX4_sweep_8 rfl (lv_at hl 0 rfl) ?_
  refine va_get (D := (dC, dI)) (ci := 4) (v := .ref atr) (C := RX4) (T := TX4) (N := 10) hx hb hts hi4 hown hK hP 0 rfl rfl 6 (by decide) f32 (fun _ h9 => h9) rfl dX4_sweep_9 ?_
  refine lv_iload_n hx hb dX4_sweep_12 rfl (lv_at hl 1 rfl) ?_
  refine va_aldq hx hb hK hP 1 0 rfl rfl (vp_in_nI (show k < 8 by omega) (by omega)) dX4_sweep_13 ?_
  rw [show (nI k).toNatClampNeg = k from nI_clamp (show k < 2 ^ 31 by omega)]
  rw [show (ftr k) = some tr from hh]
  refine lv_astore_n (lv' := [(3, .ref tr), (0, .ref ob), (1, .int (nI k)), (2, .int (nI 2))]) hx hb dX4_sweep_14 rfl hl (by decide) rfl (fun ls hl => ?_)
  refine lv_iload_n hx hb dX4_sweep_15 rfl (lv_at hl 3 rfl) ?_
  refine lv_tableIn (off := 50) (tgt := 66) hx hb dX4_sweep_16 (by decide) (by decide) (by decide) (by decide) ?_
  refine lv_aload_n hx hb dX4_sweep_66 rfl (lv_at hl 0 rfl) ?_
  refine va_get (D := (dC, dI)) (ci := 3) (v := .int (axI zk)) (C := RX3) (T := TX3) (N := 6) hx hb hts hi3 hown hK hP 2 rfl rfl 2 (by decide) f190 (fun _ h9 => h9) rfl dX4_sweep_67 ?_
  refine lv_i2l hx hb dX4_sweep_70 rfl ?_
  exact kEl hx hb hr hlocks hP hK hD hS dX4_sweep_71 rfl

set_option maxHeartbeats 4000000 in
set_option maxRecDepth 100000 in
theorem tX4_sweep_o3 (l : Launch) (dC : Nat → ClassId) (dI : Nat → Nat → Nat) (cT : ClassId) (ob ahl nh abl nb asr pb atr nt tb mt : Nat) (ftr : Nat → Option Nat) (tr : Nat) (zx zy : Int64) (zk : Nat) (zmo : Option Nat) (zup zlo : Int64) (k : Nat) (hk : k < nt) (hn : nt ≤ 8) (hh : ftr k = some tr) : MMl l yX4_sweep wsX4_sweep { frames := 1, cells := 0, slots := 0, locals := 21 } [.ref ob, .int (nI k), .int (nI 3)] (dC, dI) [(ob, .inr (4, [.ref ahl, .int (nI nh), .ref abl, .int (nI nb), .ref asr, .ref pb, .ref atr, .int (nI nt), .ref tb, .ref mt])), (atr, .inl (cT, 8, .inr (.inr (.inr (.inr ftr))))), (tr, .inr (3, [.long zx, .long zy, .int (axI zk), .int (mI zmo), .long zup, .long zlo]))] [(ob, .inr (4, [.ref ahl, .int (nI nh), .ref abl, .int (nI nb), .ref asr, .ref pb, .ref atr, .int (nI nt), .ref tb, .ref mt])), (atr, .inl (cT, 8, .inr (.inr (.inr (.inr ftr))))), (tr, .inr (3, [.long zx, .long zy, .int (axI zk), .int (mI zmo), .long zup, .long zlo]))] [(cT, .object "SweptBoxes$Trace")] ((mI zmo).toInt64) := by
  intro sz
  refine kOf (cc := cX4_sweep) (maxL := 4) (ret := (some .long)) (by decide) rfl (Nat.le_of_ble_eq_true rfl) ?_
  intro p e s m below meth c hx hb hr hml hts hown hlocks hB ls hl
  obtain ⟨hsz, hP, hK, hD0⟩ := hB
  subst hsz
  have hD := hD0.self (sz := s.heap.size)
  generalize hAe : va_A [(ob, .inr (4, [.ref ahl, .int (nI nh), .ref abl, .int (nI nb), .ref asr, .ref pb, .ref atr, .int (nI nt), .ref tb, .ref mt])), (atr, .inl (cT, 8, .inr (.inr (.inr (.inr ftr))))), (tr, .inr (3, [.long zx, .long zy, .int (axI zk), .int (mI zmo), .long zup, .long zlo]))] s.heap.size = A at hD ⊢
  have hA : ∀ q : Nat, s.heap.size ≤ q → A q := fun q h => by rw [← hAe]; exact Or.inr h
  have hS : va_S A s.heap s.heap [] := va_S.rf
  have hl : lv_has ls 4 [(0, .ref ob), (1, .int (nI k)), (2, .int (nI 3))] := hl
  have hi3 : ∀ w ∈ u_ws RX3 TX3 6, w ∈ wsX4_sweep := by decide +kernel
  have hi4 : ∀ w ∈ u_ws RX4 TX4 10, w ∈ wsX4_sweep := by decide +kernel
  have f32 := hts (.fieldLink RX4 32 "SweptBoxes" "traces" "[LSweptBoxes$Trace;") (by decide +kernel)
  have f166 := hts (.fieldLink RX4 166 "SweptBoxes" "traceCount" "I") (by decide +kernel)
  have f193 := hts (.fieldLink RX4 193 "SweptBoxes$Trace" "tileMet" "I") (by decide +kernel)
  refine lv_iload_n hx hb dX4_sweep_0 rfl (lv_at hl 1 rfl) ?_
  refine lv_aload_n hx hb dX4_sweep_1 rfl (lv_at hl 0 rfl) ?_
  refine va_get (D := (dC, dI)) (ci := 4) (v := .int (nI nt)) (C := RX4) (T := TX4) (N := 10) hx hb hts hi4 hown hK hP 0 rfl rfl 7 (by decide) f166 (fun _ h9 => h9) rfl dX4_sweep_2 ?_
  refine kmSv (As := [.int (nI k), .int (nI nt)]) (rest := []) (WC := []) (W2 := []) (WR := [(ob, .inr (4, [.ref ahl, .int (nI nh), .ref abl, .int (nI nb), .ref asr, .ref pb, .ref atr, .int (nI nt), .ref tb, .ref mt])), (atr, .inl (cT, 8, .inr (.inr (.inr (.inr ftr))))), (tr, .inr (3, [.long zx, .long zy, .int (axI zk), .int (mI zmo), .long zup, .long zlo]))]) (WN := [(ob, .inr (4, [.ref ahl, .int (nI nh), .ref abl, .int (nI nb), .ref asr, .ref pb, .ref atr, .int (nI nt), .ref tb, .ref mt])), (atr, .inl (cT, 8, .inr (.inr (.inr (.inr ftr))))), (tr, .inr (3, [.long zx, .long zy, .int (axI zk), .int (mI zmo), .long zup, .long zlo]))]) (tyC := []) (isC := []) (isR := [0, 1, 2]) (isN := [0, 1, 2]) (its := []) ⟨hx, hb, hml, hown, hts⟩ (tX4_needIndex_o l dC dI k nt (by omega) (by omega)) (va_cwS 2 hts gX4_sweep_X4_needIndex rfl rfl rfl (by decide +kernel) ⟨Nat.le_of_ble_eq_true rfl, Nat.le_of_ble_eq_true rfl⟩) hP hD hA hS hK rfl (by decide) rfl (by decide) (by decide) rfl (by decide) rfl rfl rfl hl.1 (Nat.le_of_ble_eq_true rfl) dX4_sweep_5 ⟨Nat.le_of_ble_eq_true rfl, Nat.le_of_ble_eq_true rfl⟩ (fun H locs hP hD hS => ?_)
  refine lv_aload_n hx hb dX4_sweep_8 rfl (lv_at hl 0 rfl) ?_
  refine va_get (D := (dC, dI)) (ci := 4) (v := .ref atr) (C := RX4) (T := TX4) (N := 10) hx hb hts hi4 hown hK hP 0 rfl rfl 6 (by decide) f32 (fun _ h9 => h9) rfl dX4_sweep_9 ?_
  refine lv_iload_n hx hb dX4_sweep_12 rfl (lv_at hl 1 rfl) ?_
  refine va_aldq hx hb hK hP 1 0 rfl rfl (vp_in_nI (show k < 8 by omega) (by omega)) dX4_sweep_13 ?_
  rw [show (nI k).toNatClampNeg = k from nI_clamp (show k < 2 ^ 31 by omega)]
  rw [show (ftr k) = some tr from hh]
  refine lv_astore_n (lv' := [(3, .ref tr), (0, .ref ob), (1, .int (nI k)), (2, .int (nI 3))]) hx hb dX4_sweep_14 rfl hl (by decide) rfl (fun ls hl => ?_)
  refine lv_iload_n hx hb dX4_sweep_15 rfl (lv_at hl 3 rfl) ?_
  refine lv_tableIn (off := 56) (tgt := 72) hx hb dX4_sweep_16 (by decide) (by decide) (by decide) (by decide) ?_
  refine lv_aload_n hx hb dX4_sweep_72 rfl (lv_at hl 0 rfl) ?_
  refine va_get (D := (dC, dI)) (ci := 3) (v := .int (mI zmo)) (C := RX3) (T := TX3) (N := 6) hx hb hts hi3 hown hK hP 2 rfl rfl 3 (by decide) f193 (fun _ h9 => h9) rfl dX4_sweep_73 ?_
  refine lv_i2l hx hb dX4_sweep_76 rfl ?_
  exact kEl hx hb hr hlocks hP hK hD hS dX4_sweep_77 rfl

set_option maxHeartbeats 4000000 in
set_option maxRecDepth 100000 in
theorem tX4_sweep_o4 (l : Launch) (dC : Nat → ClassId) (dI : Nat → Nat → Nat) (cT : ClassId) (ob ahl nh abl nb asr pb atr nt tb mt : Nat) (ftr : Nat → Option Nat) (tr : Nat) (zx zy : Int64) (zk : Nat) (zmo : Option Nat) (zup zlo : Int64) (k : Nat) (hk : k < nt) (hn : nt ≤ 8) (hh : ftr k = some tr) : MMl l yX4_sweep wsX4_sweep { frames := 1, cells := 0, slots := 0, locals := 21 } [.ref ob, .int (nI k), .int (nI 4)] (dC, dI) [(ob, .inr (4, [.ref ahl, .int (nI nh), .ref abl, .int (nI nb), .ref asr, .ref pb, .ref atr, .int (nI nt), .ref tb, .ref mt])), (atr, .inl (cT, 8, .inr (.inr (.inr (.inr ftr))))), (tr, .inr (3, [.long zx, .long zy, .int (axI zk), .int (mI zmo), .long zup, .long zlo]))] [(ob, .inr (4, [.ref ahl, .int (nI nh), .ref abl, .int (nI nb), .ref asr, .ref pb, .ref atr, .int (nI nt), .ref tb, .ref mt])), (atr, .inl (cT, 8, .inr (.inr (.inr (.inr ftr))))), (tr, .inr (3, [.long zx, .long zy, .int (axI zk), .int (mI zmo), .long zup, .long zlo]))] [(cT, .object "SweptBoxes$Trace")] (zup) := by
  intro sz
  refine kOf (cc := cX4_sweep) (maxL := 4) (ret := (some .long)) (by decide) rfl (Nat.le_of_ble_eq_true rfl) ?_
  intro p e s m below meth c hx hb hr hml hts hown hlocks hB ls hl
  obtain ⟨hsz, hP, hK, hD0⟩ := hB
  subst hsz
  have hD := hD0.self (sz := s.heap.size)
  generalize hAe : va_A [(ob, .inr (4, [.ref ahl, .int (nI nh), .ref abl, .int (nI nb), .ref asr, .ref pb, .ref atr, .int (nI nt), .ref tb, .ref mt])), (atr, .inl (cT, 8, .inr (.inr (.inr (.inr ftr))))), (tr, .inr (3, [.long zx, .long zy, .int (axI zk), .int (mI zmo), .long zup, .long zlo]))] s.heap.size = A at hD ⊢
  have hA : ∀ q : Nat, s.heap.size ≤ q → A q := fun q h => by rw [← hAe]; exact Or.inr h
  have hS : va_S A s.heap s.heap [] := va_S.rf
  have hl : lv_has ls 4 [(0, .ref ob), (1, .int (nI k)), (2, .int (nI 4))] := hl
  have hi3 : ∀ w ∈ u_ws RX3 TX3 6, w ∈ wsX4_sweep := by decide +kernel
  have hi4 : ∀ w ∈ u_ws RX4 TX4 10, w ∈ wsX4_sweep := by decide +kernel
  have f32 := hts (.fieldLink RX4 32 "SweptBoxes" "traces" "[LSweptBoxes$Trace;") (by decide +kernel)
  have f166 := hts (.fieldLink RX4 166 "SweptBoxes" "traceCount" "I") (by decide +kernel)
  have f196 := hts (.fieldLink RX4 196 "SweptBoxes$Trace" "upper" "J") (by decide +kernel)
  refine lv_iload_n hx hb dX4_sweep_0 rfl (lv_at hl 1 rfl) ?_
  refine lv_aload_n hx hb dX4_sweep_1 rfl (lv_at hl 0 rfl) ?_
  refine va_get (D := (dC, dI)) (ci := 4) (v := .int (nI nt)) (C := RX4) (T := TX4) (N := 10) hx hb hts hi4 hown hK hP 0 rfl rfl 7 (by decide) f166 (fun _ h9 => h9) rfl dX4_sweep_2 ?_
  refine kmSv (As := [.int (nI k), .int (nI nt)]) (rest := []) (WC := []) (W2 := []) (WR := [(ob, .inr (4, [.ref ahl, .int (nI nh), .ref abl, .int (nI nb), .ref asr, .ref pb, .ref atr, .int (nI nt), .ref tb, .ref mt])), (atr, .inl (cT, 8, .inr (.inr (.inr (.inr ftr))))), (tr, .inr (3, [.long zx, .long zy, .int (axI zk), .int (mI zmo), .long zup, .long zlo]))]) (WN := [(ob, .inr (4, [.ref ahl, .int (nI nh), .ref abl, .int (nI nb), .ref asr, .ref pb, .ref atr, .int (nI nt), .ref tb, .ref mt])), (atr, .inl (cT, 8, .inr (.inr (.inr (.inr ftr))))), (tr, .inr (3, [.long zx, .long zy, .int (axI zk), .int (mI zmo), .long zup, .long zlo]))]) (tyC := []) (isC := []) (isR := [0, 1, 2]) (isN := [0, 1, 2]) (its := []) ⟨hx, hb, hml, hown, hts⟩ (tX4_needIndex_o l dC dI k nt (by omega) (by omega)) (va_cwS 2 hts gX4_sweep_X4_needIndex rfl rfl rfl (by decide +kernel) ⟨Nat.le_of_ble_eq_true rfl, Nat.le_of_ble_eq_true rfl⟩) hP hD hA hS hK rfl (by decide) rfl (by decide) (by decide) rfl (by decide) rfl rfl rfl hl.1 (Nat.le_of_ble_eq_true rfl) dX4_sweep_5 ⟨Nat.le_of_ble_eq_true rfl, Nat.le_of_ble_eq_true rfl⟩ (fun H locs hP hD hS => ?_)
  refine lv_aload_n hx hb dX4_sweep_8 rfl (lv_at hl 0 rfl) ?_
  refine va_get (D := (dC, dI)) (ci := 4) (v := .ref atr) (C := RX4) (T := TX4) (N := 10) hx hb hts hi4 hown hK hP 0 rfl rfl 6 (by decide) f32 (fun _ h9 => h9) rfl dX4_sweep_9 ?_
  refine lv_iload_n hx hb dX4_sweep_12 rfl (lv_at hl 1 rfl) ?_
  refine va_aldq hx hb hK hP 1 0 rfl rfl (vp_in_nI (show k < 8 by omega) (by omega)) dX4_sweep_13 ?_
  rw [show (nI k).toNatClampNeg = k from nI_clamp (show k < 2 ^ 31 by omega)]
  rw [show (ftr k) = some tr from hh]
  refine lv_astore_n (lv' := [(3, .ref tr), (0, .ref ob), (1, .int (nI k)), (2, .int (nI 4))]) hx hb dX4_sweep_14 rfl hl (by decide) rfl (fun ls hl => ?_)
  refine lv_iload_n hx hb dX4_sweep_15 rfl (lv_at hl 3 rfl) ?_
  refine lv_tableIn (off := 62) (tgt := 78) hx hb dX4_sweep_16 (by decide) (by decide) (by decide) (by decide) ?_
  refine lv_aload_n hx hb dX4_sweep_78 rfl (lv_at hl 0 rfl) ?_
  refine va_get (D := (dC, dI)) (ci := 3) (v := .long zup) (C := RX3) (T := TX3) (N := 6) hx hb hts hi3 hown hK hP 2 rfl rfl 4 (by decide) f196 (fun _ h9 => h9) rfl dX4_sweep_79 ?_
  exact kEl hx hb hr hlocks hP hK hD hS dX4_sweep_82 rfl

set_option maxHeartbeats 4000000 in
set_option maxRecDepth 100000 in
theorem tX4_sweep_o5 (l : Launch) (dC : Nat → ClassId) (dI : Nat → Nat → Nat) (cT : ClassId) (ob ahl nh abl nb asr pb atr nt tb mt : Nat) (ftr : Nat → Option Nat) (tr : Nat) (zx zy : Int64) (zk : Nat) (zmo : Option Nat) (zup zlo : Int64) (k : Nat) (hk : k < nt) (hn : nt ≤ 8) (hh : ftr k = some tr) : MMl l yX4_sweep wsX4_sweep { frames := 1, cells := 0, slots := 0, locals := 21 } [.ref ob, .int (nI k), .int (nI 5)] (dC, dI) [(ob, .inr (4, [.ref ahl, .int (nI nh), .ref abl, .int (nI nb), .ref asr, .ref pb, .ref atr, .int (nI nt), .ref tb, .ref mt])), (atr, .inl (cT, 8, .inr (.inr (.inr (.inr ftr))))), (tr, .inr (3, [.long zx, .long zy, .int (axI zk), .int (mI zmo), .long zup, .long zlo]))] [(ob, .inr (4, [.ref ahl, .int (nI nh), .ref abl, .int (nI nb), .ref asr, .ref pb, .ref atr, .int (nI nt), .ref tb, .ref mt])), (atr, .inl (cT, 8, .inr (.inr (.inr (.inr ftr))))), (tr, .inr (3, [.long zx, .long zy, .int (axI zk), .int (mI zmo), .long zup, .long zlo]))] [(cT, .object "SweptBoxes$Trace")] (zlo) := by
  intro sz
  refine kOf (cc := cX4_sweep) (maxL := 4) (ret := (some .long)) (by decide) rfl (Nat.le_of_ble_eq_true rfl) ?_
  intro p e s m below meth c hx hb hr hml hts hown hlocks hB ls hl
  obtain ⟨hsz, hP, hK, hD0⟩ := hB
  subst hsz
  have hD := hD0.self (sz := s.heap.size)
  generalize hAe : va_A [(ob, .inr (4, [.ref ahl, .int (nI nh), .ref abl, .int (nI nb), .ref asr, .ref pb, .ref atr, .int (nI nt), .ref tb, .ref mt])), (atr, .inl (cT, 8, .inr (.inr (.inr (.inr ftr))))), (tr, .inr (3, [.long zx, .long zy, .int (axI zk), .int (mI zmo), .long zup, .long zlo]))] s.heap.size = A at hD ⊢
  have hA : ∀ q : Nat, s.heap.size ≤ q → A q := fun q h => by rw [← hAe]; exact Or.inr h
  have hS : va_S A s.heap s.heap [] := va_S.rf
  have hl : lv_has ls 4 [(0, .ref ob), (1, .int (nI k)), (2, .int (nI 5))] := hl
  have hi3 : ∀ w ∈ u_ws RX3 TX3 6, w ∈ wsX4_sweep := by decide +kernel
  have hi4 : ∀ w ∈ u_ws RX4 TX4 10, w ∈ wsX4_sweep := by decide +kernel
  have f32 := hts (.fieldLink RX4 32 "SweptBoxes" "traces" "[LSweptBoxes$Trace;") (by decide +kernel)
  have f166 := hts (.fieldLink RX4 166 "SweptBoxes" "traceCount" "I") (by decide +kernel)
  have f197 := hts (.fieldLink RX4 197 "SweptBoxes$Trace" "lower" "J") (by decide +kernel)
  refine lv_iload_n hx hb dX4_sweep_0 rfl (lv_at hl 1 rfl) ?_
  refine lv_aload_n hx hb dX4_sweep_1 rfl (lv_at hl 0 rfl) ?_
  refine va_get (D := (dC, dI)) (ci := 4) (v := .int (nI nt)) (C := RX4) (T := TX4) (N := 10) hx hb hts hi4 hown hK hP 0 rfl rfl 7 (by decide) f166 (fun _ h9 => h9) rfl dX4_sweep_2 ?_
  refine kmSv (As := [.int (nI k), .int (nI nt)]) (rest := []) (WC := []) (W2 := []) (WR := [(ob, .inr (4, [.ref ahl, .int (nI nh), .ref abl, .int (nI nb), .ref asr, .ref pb, .ref atr, .int (nI nt), .ref tb, .ref mt])), (atr, .inl (cT, 8, .inr (.inr (.inr (.inr ftr))))), (tr, .inr (3, [.long zx, .long zy, .int (axI zk), .int (mI zmo), .long zup, .long zlo]))]) (WN := [(ob, .inr (4, [.ref ahl, .int (nI nh), .ref abl, .int (nI nb), .ref asr, .ref pb, .ref atr, .int (nI nt), .ref tb, .ref mt])), (atr, .inl (cT, 8, .inr (.inr (.inr (.inr ftr))))), (tr, .inr (3, [.long zx, .long zy, .int (axI zk), .int (mI zmo), .long zup, .long zlo]))]) (tyC := []) (isC := []) (isR := [0, 1, 2]) (isN := [0, 1, 2]) (its := []) ⟨hx, hb, hml, hown, hts⟩ (tX4_needIndex_o l dC dI k nt (by omega) (by omega)) (va_cwS 2 hts gX4_sweep_X4_needIndex rfl rfl rfl (by decide +kernel) ⟨Nat.le_of_ble_eq_true rfl, Nat.le_of_ble_eq_true rfl⟩) hP hD hA hS hK rfl (by decide) rfl (by decide) (by decide) rfl (by decide) rfl rfl rfl hl.1 (Nat.le_of_ble_eq_true rfl) dX4_sweep_5 ⟨Nat.le_of_ble_eq_true rfl, Nat.le_of_ble_eq_true rfl⟩ (fun H locs hP hD hS => ?_)
  refine lv_aload_n hx hb dX4_sweep_8 rfl (lv_at hl 0 rfl) ?_
  refine va_get (D := (dC, dI)) (ci := 4) (v := .ref atr) (C := RX4) (T := TX4) (N := 10) hx hb hts hi4 hown hK hP 0 rfl rfl 6 (by decide) f32 (fun _ h9 => h9) rfl dX4_sweep_9 ?_
  refine lv_iload_n hx hb dX4_sweep_12 rfl (lv_at hl 1 rfl) ?_
  refine va_aldq hx hb hK hP 1 0 rfl rfl (vp_in_nI (show k < 8 by omega) (by omega)) dX4_sweep_13 ?_
  rw [show (nI k).toNatClampNeg = k from nI_clamp (show k < 2 ^ 31 by omega)]
  rw [show (ftr k) = some tr from hh]
  refine lv_astore_n (lv' := [(3, .ref tr), (0, .ref ob), (1, .int (nI k)), (2, .int (nI 5))]) hx hb dX4_sweep_14 rfl hl (by decide) rfl (fun ls hl => ?_)
  refine lv_iload_n hx hb dX4_sweep_15 rfl (lv_at hl 3 rfl) ?_
  refine lv_tableIn (off := 67) (tgt := 83) hx hb dX4_sweep_16 (by decide) (by decide) (by decide) (by decide) ?_
  refine lv_aload_n hx hb dX4_sweep_83 rfl (lv_at hl 0 rfl) ?_
  refine va_get (D := (dC, dI)) (ci := 3) (v := .long zlo) (C := RX3) (T := TX3) (N := 6) hx hb hts hi3 hown hK hP 2 rfl rfl 5 (by decide) f197 (fun _ h9 => h9) rfl dX4_sweep_84 ?_
  exact kEl hx hb hr hlocks hP hK hD hS dX4_sweep_87 rfl

set_option maxHeartbeats 4000000 in
set_option maxRecDepth 100000 in
theorem tX4_tile_s (l : Launch) (dC : Nat → ClassId) (dI : Nat → Nat → Nat) (cI : ClassId) (ob ahl nh abl nb asr pb atr nt tb mt : Nat) (fsr : Nat → Int32) (tx0 ty0 tx1 ty1 tdx tdy : Int64) (px0 py0 px1 py1 pdx pdy : Int64) (i j : Nat) (b : Bool) (hi : i < 24) (hj : j < 24) (hno : b = true → ¬ cOver px0 py0 px1 py1 i j) (hs : sBit (fsr j) i = b) : MMi l yX4_tile wsX4_tile { frames := 3, cells := 0, slots := 0, locals := 74 } [.ref ob, .int (nI i), .int (nI j), .int (bI b)] (dC, dI) [(ob, .inr (4, [.ref ahl, .int (nI nh), .ref abl, .int (nI nb), .ref asr, .ref pb, .ref atr, .int (nI nt), .ref tb, .ref mt])), (asr, .inl (cI, 24, .inl fsr)), (tb, .inr (0, [.long tx0, .long ty0, .long tx1, .long ty1, .long tdx, .long tdy])), (pb, .inr (0, [.long px0, .long py0, .long px1, .long py1, .long pdx, .long pdy]))] [(ob, .inr (4, [.ref ahl, .int (nI nh), .ref abl, .int (nI nb), .ref asr, .ref pb, .ref atr, .int (nI nt), .ref tb, .ref mt])), (asr, .inl (cI, 24, .inl fsr)), (tb, .inr (0, [.long (16 * (nI i).toInt64), .long (16 * (nI j).toInt64), .long ((16 * (nI i).toInt64) + 16), .long ((16 * (nI j).toInt64) + 16), .long 0, .long 0])), (pb, .inr (0, [.long px0, .long py0, .long px1, .long py1, .long pdx, .long pdy]))] [(cI, .int)] (bI false) := by
  intro sz
  refine kOf (cc := cX4_tile) (maxL := 5) (ret := (some .boolean)) (by decide) rfl (Nat.le_of_ble_eq_true rfl) ?_
  intro p e s m below meth c hx hb hr hml hts hown hlocks hB ls hl
  obtain ⟨hsz, hP, hK, hD0⟩ := hB
  subst hsz
  have hD := hD0.self (sz := s.heap.size)
  generalize hAe : va_A [(ob, .inr (4, [.ref ahl, .int (nI nh), .ref abl, .int (nI nb), .ref asr, .ref pb, .ref atr, .int (nI nt), .ref tb, .ref mt])), (asr, .inl (cI, 24, .inl fsr)), (tb, .inr (0, [.long tx0, .long ty0, .long tx1, .long ty1, .long tdx, .long tdy])), (pb, .inr (0, [.long px0, .long py0, .long px1, .long py1, .long pdx, .long pdy]))] s.heap.size = A at hD ⊢
  have hA : ∀ q : Nat, s.heap.size ≤ q → A q := fun q h => by rw [← hAe]; exact Or.inr h
  have hS : va_S A s.heap s.heap [] := va_S.rf
  have hl : lv_has ls 5 [(0, .ref ob), (1, .int (nI i)), (2, .int (nI j)), (3, .int (bI b))] := hl
  have hi4 : ∀ w ∈ u_ws RX4 TX4 10, w ∈ wsX4_tile := by decide +kernel
  have f26 := hts (.fieldLink RX4 26 "SweptBoxes" "playerBox" "LSweptBoxes$Block;") (by decide +kernel)
  have f36 := hts (.fieldLink RX4 36 "SweptBoxes" "tileBlock" "LSweptBoxes$Block;") (by decide +kernel)
  refine lv_iload_n hx hb dX4_tile_0 rfl (lv_at hl 1 rfl) ?_
  refine lv_bipush (v := (nI 24)) hx hb dX4_tile_1 (by decide) ?_
  refine kmSv (As := [.int (nI i), .int (nI 24)]) (rest := []) (WC := []) (W2 := []) (WR := [(ob, .inr (4, [.ref ahl, .int (nI nh), .ref abl, .int (nI nb), .ref asr, .ref pb, .ref atr, .int (nI nt), .ref tb, .ref mt])), (asr, .inl (cI, 24, .inl fsr)), (tb, .inr (0, [.long tx0, .long ty0, .long tx1, .long ty1, .long tdx, .long tdy])), (pb, .inr (0, [.long px0, .long py0, .long px1, .long py1, .long pdx, .long pdy]))]) (WN := [(ob, .inr (4, [.ref ahl, .int (nI nh), .ref abl, .int (nI nb), .ref asr, .ref pb, .ref atr, .int (nI nt), .ref tb, .ref mt])), (asr, .inl (cI, 24, .inl fsr)), (tb, .inr (0, [.long tx0, .long ty0, .long tx1, .long ty1, .long tdx, .long tdy])), (pb, .inr (0, [.long px0, .long py0, .long px1, .long py1, .long pdx, .long pdy]))]) (tyC := []) (isC := []) (isR := [0, 1, 2, 3]) (isN := [0, 1, 2, 3]) (its := []) ⟨hx, hb, hml, hown, hts⟩ (tX4_needIndex_o l dC dI i 24 (by omega) (by omega)) (va_cwS 2 hts gX4_tile_X4_needIndex rfl rfl rfl (by decide +kernel) ⟨Nat.le_of_ble_eq_true rfl, Nat.le_of_ble_eq_true rfl⟩) hP hD hA hS hK rfl (by decide) rfl (by decide) (by decide) rfl (by decide) rfl rfl rfl hl.1 (Nat.le_of_ble_eq_true rfl) dX4_tile_3 ⟨Nat.le_of_ble_eq_true rfl, Nat.le_of_ble_eq_true rfl⟩ (fun H locs hP hD hS => ?_)
  refine lv_iload_n hx hb dX4_tile_6 rfl (lv_at hl 2 rfl) ?_
  refine lv_bipush (v := (nI 24)) hx hb dX4_tile_7 (by decide) ?_
  refine kmSv (As := [.int (nI j), .int (nI 24)]) (rest := []) (WC := []) (W2 := []) (WR := [(ob, .inr (4, [.ref ahl, .int (nI nh), .ref abl, .int (nI nb), .ref asr, .ref pb, .ref atr, .int (nI nt), .ref tb, .ref mt])), (asr, .inl (cI, 24, .inl fsr)), (tb, .inr (0, [.long tx0, .long ty0, .long tx1, .long ty1, .long tdx, .long tdy])), (pb, .inr (0, [.long px0, .long py0, .long px1, .long py1, .long pdx, .long pdy]))]) (WN := [(ob, .inr (4, [.ref ahl, .int (nI nh), .ref abl, .int (nI nb), .ref asr, .ref pb, .ref atr, .int (nI nt), .ref tb, .ref mt])), (asr, .inl (cI, 24, .inl fsr)), (tb, .inr (0, [.long tx0, .long ty0, .long tx1, .long ty1, .long tdx, .long tdy])), (pb, .inr (0, [.long px0, .long py0, .long px1, .long py1, .long pdx, .long pdy]))]) (tyC := []) (isC := []) (isR := [0, 1, 2, 3]) (isN := [0, 1, 2, 3]) (its := []) ⟨hx, hb, hml, hown, hts⟩ (tX4_needIndex_o l dC dI j 24 (by omega) (by omega)) (va_cwS 2 hts gX4_tile_X4_needIndex rfl rfl rfl (by decide +kernel) ⟨Nat.le_of_ble_eq_true rfl, Nat.le_of_ble_eq_true rfl⟩) hP hD hA hS hK rfl (by decide) rfl (by decide) (by decide) rfl (by decide) rfl rfl rfl hl.1 (Nat.le_of_ble_eq_true rfl) dX4_tile_9 ⟨Nat.le_of_ble_eq_true rfl, Nat.le_of_ble_eq_true rfl⟩ (fun H locs hP hD hS => ?_)
  refine lv_aload_n hx hb dX4_tile_12 rfl (lv_at hl 0 rfl) ?_
  refine va_get (D := (dC, dI)) (ci := 4) (v := .ref tb) (C := RX4) (T := TX4) (N := 10) hx hb hts hi4 hown hK hP 0 rfl rfl 8 (by decide) f36 (fun _ h9 => h9) rfl dX4_tile_13 ?_
  refine lv_iload_n hx hb dX4_tile_16 rfl (lv_at hl 1 rfl) ?_
  refine lv_iload_n hx hb dX4_tile_17 rfl (lv_at hl 2 rfl) ?_
  refine kmVv (q0 := 0) (ci := 0) (As := [.int (nI i), .int (nI j)]) (rest := []) (WC := [(tb, .inr (0, [.long tx0, .long ty0, .long tx1, .long ty1, .long tdx, .long tdy]))]) (W2 := [(tb, .inr (0, [.long (16 * (nI i).toInt64), .long (16 * (nI j).toInt64), .long ((16 * (nI i).toInt64) + 16), .long ((16 * (nI j).toInt64) + 16), .long 0, .long 0]))]) (WR := [(ob, .inr (4, [.ref ahl, .int (nI nh), .ref abl, .int (nI nb), .ref asr, .ref pb, .ref atr, .int (nI nt), .ref tb, .ref mt])), (asr, .inl (cI, 24, .inl fsr)), (pb, .inr (0, [.long px0, .long py0, .long px1, .long py1, .long pdx, .long pdy]))]) (WN := [(ob, .inr (4, [.ref ahl, .int (nI nh), .ref abl, .int (nI nb), .ref asr, .ref pb, .ref atr, .int (nI nt), .ref tb, .ref mt])), (asr, .inl (cI, 24, .inl fsr)), (tb, .inr (0, [.long (16 * (nI i).toInt64), .long (16 * (nI j).toInt64), .long ((16 * (nI i).toInt64) + 16), .long ((16 * (nI j).toInt64) + 16), .long 0, .long 0])), (pb, .inr (0, [.long px0, .long py0, .long px1, .long py1, .long pdx, .long pdy]))]) (tyC := []) (isC := [2]) (isR := [0, 1, 3]) (isN := [0, 1, 3, 2]) (its := []) ⟨hx, hb, hml, hown, hts⟩ (tX0_putTile l dC dI tb tx0 ty0 tx1 ty1 tdx tdy (nI i) (nI j)) (cwV 2 hts gX4_tile_X0_putTile rfl rfl rfl (by decide +kernel) ⟨Nat.le_of_ble_eq_true rfl, Nat.le_of_ble_eq_true rfl⟩) hP hD hA hS hK rfl (by decide) rfl (by decide) (by decide) rfl (by decide) rfl rfl rfl rfl rfl hl.1 (Nat.le_of_ble_eq_true rfl) dX4_tile_18 ⟨Nat.le_of_ble_eq_true rfl, Nat.le_of_ble_eq_true rfl⟩ (fun H locs hP hD hS => ?_)
  refine lv_iload_n hx hb dX4_tile_21 rfl (lv_at hl 3 rfl) ?_
  refine lv_if_eq (tgt := 49) hx hb dX4_tile_22 (by decide) (fun c22 => ?_) (fun c22 => ?_)
  · replace c22 := bI_0 c22
    refine lv_aload_n hx hb dX4_tile_49 rfl (lv_at hl 0 rfl) ?_
    refine lv_iload_n hx hb dX4_tile_50 rfl (lv_at hl 1 rfl) ?_
    refine lv_iload_n hx hb dX4_tile_51 rfl (lv_at hl 2 rfl) ?_
    refine kpVi (q0 := 0) (ci := 4) (As := [.int (nI i), .int (nI j)]) (rest := []) (WC := [(ob, .inr (4, [.ref ahl, .int (nI nh), .ref abl, .int (nI nb), .ref asr, .ref pb, .ref atr, .int (nI nt), .ref tb, .ref mt])), (asr, .inl (cI, 24, .inl fsr))]) (tyC := [(cI, .int)]) ⟨hx, hb, hml, hown, hts⟩ (tX4_isSolid l dC dI cI ob ahl nh abl nb asr pb atr nt tb mt fsr i j (by omega)) (cwV 2 hts gX4_tile_X4_isSolid rfl rfl rfl (by decide +kernel) ⟨Nat.le_of_ble_eq_true rfl, Nat.le_of_ble_eq_true rfl⟩) (kPick (isC := [0, 1]) hP rfl) (hK.sub [0] rfl) rfl rfl rfl rfl hl.1 (Nat.le_of_ble_eq_true rfl) dX4_tile_52 ⟨Nat.le_of_ble_eq_true rfl, Nat.le_of_ble_eq_true rfl⟩ ?_
    refine lv_iload_n hx hb dX4_tile_55 rfl (lv_at hl 3 rfl) ?_
    refine lv_icmp_eq (tgt := 63) hx hb dX4_tile_56 (by decide) (fun c56 => ?_) (fun c56 => ?_)
    · skip
      refine lv_iconst (v := (nI 0)) hx hb dX4_tile_63 (by decide) ?_
      refine lv_istore (lv' := [(4, .int (nI 0)), (0, .ref ob), (1, .int (nI i)), (2, .int (nI j)), (3, .int (bI b))]) hx hb dX4_tile_64 hl (by decide) rfl (fun ls hl => ?_)
      refine lv_iload hx hb dX4_tile_66 (lv_at hl 0 rfl) ?_
      refine lv_if_eq (tgt := 83) hx hb dX4_tile_68 (by decide) (fun c68 => ?_) (fun c68 => ?_)
      · rw [← nI_0, nI_eq (by omega) (by omega)] at c68
        refine lv_iload hx hb dX4_tile_83 (lv_at hl 0 rfl) ?_
        exact kEz hx hb hr hlocks hP hK hD hS dX4_tile_85 rfl
      · skip
        exact absurd c68 (by decide)
    · skip
      exact absurd (congrArg bI hs) c56
  · replace c22 := bI_n c22
    refine lv_aload_n hx hb dX4_tile_25 rfl (lv_at hl 0 rfl) ?_
    refine va_get (D := (dC, dI)) (ci := 4) (v := .ref tb) (C := RX4) (T := TX4) (N := 10) hx hb hts hi4 hown hK hP 0 rfl rfl 8 (by decide) f36 (fun _ h9 => h9) rfl dX4_tile_26 ?_
    refine lv_aload_n hx hb dX4_tile_29 rfl (lv_at hl 0 rfl) ?_
    refine va_get (D := (dC, dI)) (ci := 4) (v := .ref pb) (C := RX4) (T := TX4) (N := 10) hx hb hts hi4 hown hK hP 0 rfl rfl 5 (by decide) f26 (fun _ h9 => h9) rfl dX4_tile_30 ?_
    refine kpVi (q0 := 0) (ci := 0) (As := [.ref pb]) (rest := []) (WC := [(tb, .inr (0, [.long (16 * (nI i).toInt64), .long (16 * (nI j).toInt64), .long ((16 * (nI i).toInt64) + 16), .long ((16 * (nI j).toInt64) + 16), .long 0, .long 0])), (pb, .inr (0, [.long px0, .long py0, .long px1, .long py1, .long pdx, .long pdy]))]) (tyC := []) ⟨hx, hb, hml, hown, hts⟩ (tX0_liesOver l dC dI tb (16 * (nI i).toInt64) (16 * (nI j).toInt64) ((16 * (nI i).toInt64) + 16) ((16 * (nI j).toInt64) + 16) 0 0 pb px0 py0 px1 py1 pdx pdy) (cwV 1 hts gX4_tile_X0_liesOver rfl rfl rfl (by decide +kernel) ⟨Nat.le_of_ble_eq_true rfl, Nat.le_of_ble_eq_true rfl⟩) (kPick (isC := [2, 3]) hP rfl) (hK.sub [] rfl) rfl rfl rfl rfl hl.1 (Nat.le_of_ble_eq_true rfl) dX4_tile_33 ⟨Nat.le_of_ble_eq_true rfl, Nat.le_of_ble_eq_true rfl⟩ ?_
    refine lv_if_eq (tgt := 49) hx hb dX4_tile_36 (by decide) (fun c36 => ?_) (fun c36 => ?_)
    · replace c36 := bI_0 c36; replace c36 := of_decide_eq_false c36
      refine lv_aload_n hx hb dX4_tile_49 rfl (lv_at hl 0 rfl) ?_
      refine lv_iload_n hx hb dX4_tile_50 rfl (lv_at hl 1 rfl) ?_
      refine lv_iload_n hx hb dX4_tile_51 rfl (lv_at hl 2 rfl) ?_
      refine kpVi (q0 := 0) (ci := 4) (As := [.int (nI i), .int (nI j)]) (rest := []) (WC := [(ob, .inr (4, [.ref ahl, .int (nI nh), .ref abl, .int (nI nb), .ref asr, .ref pb, .ref atr, .int (nI nt), .ref tb, .ref mt])), (asr, .inl (cI, 24, .inl fsr))]) (tyC := [(cI, .int)]) ⟨hx, hb, hml, hown, hts⟩ (tX4_isSolid l dC dI cI ob ahl nh abl nb asr pb atr nt tb mt fsr i j (by omega)) (cwV 2 hts gX4_tile_X4_isSolid rfl rfl rfl (by decide +kernel) ⟨Nat.le_of_ble_eq_true rfl, Nat.le_of_ble_eq_true rfl⟩) (kPick (isC := [0, 1]) hP rfl) (hK.sub [0] rfl) rfl rfl rfl rfl hl.1 (Nat.le_of_ble_eq_true rfl) dX4_tile_52 ⟨Nat.le_of_ble_eq_true rfl, Nat.le_of_ble_eq_true rfl⟩ ?_
      refine lv_iload_n hx hb dX4_tile_55 rfl (lv_at hl 3 rfl) ?_
      refine lv_icmp_eq (tgt := 63) hx hb dX4_tile_56 (by decide) (fun c56 => ?_) (fun c56 => ?_)
      · skip
        refine lv_iconst (v := (nI 0)) hx hb dX4_tile_63 (by decide) ?_
        refine lv_istore (lv' := [(4, .int (nI 0)), (0, .ref ob), (1, .int (nI i)), (2, .int (nI j)), (3, .int (bI b))]) hx hb dX4_tile_64 hl (by decide) rfl (fun ls hl => ?_)
        refine lv_iload hx hb dX4_tile_66 (lv_at hl 0 rfl) ?_
        refine lv_if_eq (tgt := 83) hx hb dX4_tile_68 (by decide) (fun c68 => ?_) (fun c68 => ?_)
        · rw [← nI_0, nI_eq (by omega) (by omega)] at c68
          refine lv_iload hx hb dX4_tile_83 (lv_at hl 0 rfl) ?_
          exact kEz hx hb hr hlocks hP hK hD hS dX4_tile_85 rfl
        · skip
          exact absurd c68 (by decide)
      · skip
        exact absurd (congrArg bI hs) c56
    · replace c36 := bI_n c36; replace c36 := of_decide_eq_true c36
      exact absurd c36 (hno c22)

set_option maxHeartbeats 4000000 in
set_option maxRecDepth 100000 in
theorem tX4_tile_c (l : Launch) (dC : Nat → ClassId) (dI : Nat → Nat → Nat) (cI : ClassId) (ob ahl nh abl nb asr pb atr nt tb mt : Nat) (fsr : Nat → Int32) (tx0 ty0 tx1 ty1 tdx tdy : Int64) (px0 py0 px1 py1 pdx pdy : Int64) (i j : Nat) (b : Bool) (hi : i < 24) (hj : j < 24) (hno : b = true → ¬ cOver px0 py0 px1 py1 i j) (hs : ¬ sBit (fsr j) i = b) : MMi l yX4_tile wsX4_tile { frames := 3, cells := 0, slots := 0, locals := 74 } [.ref ob, .int (nI i), .int (nI j), .int (bI b)] (dC, dI) [(ob, .inr (4, [.ref ahl, .int (nI nh), .ref abl, .int (nI nb), .ref asr, .ref pb, .ref atr, .int (nI nt), .ref tb, .ref mt])), (asr, .inl (cI, 24, .inl fsr)), (tb, .inr (0, [.long tx0, .long ty0, .long tx1, .long ty1, .long tdx, .long tdy])), (pb, .inr (0, [.long px0, .long py0, .long px1, .long py1, .long pdx, .long pdy]))] [(ob, .inr (4, [.ref ahl, .int (nI nh), .ref abl, .int (nI nb), .ref asr, .ref pb, .ref atr, .int (nI nt), .ref tb, .ref mt])), (asr, .inl (cI, 24, .inl (upd fsr j ((fsr j) ^^^ ((nI 1) <<< ((nI i) &&& 31)))))), (tb, .inr (0, [.long (16 * (nI i).toInt64), .long (16 * (nI j).toInt64), .long ((16 * (nI i).toInt64) + 16), .long ((16 * (nI j).toInt64) + 16), .long 0, .long 0])), (pb, .inr (0, [.long px0, .long py0, .long px1, .long py1, .long pdx, .long pdy]))] [(cI, .int)] (bI true) := by
  intro sz
  refine kOf (cc := cX4_tile) (maxL := 5) (ret := (some .boolean)) (by decide) rfl (Nat.le_of_ble_eq_true rfl) ?_
  intro p e s m below meth c hx hb hr hml hts hown hlocks hB ls hl
  obtain ⟨hsz, hP, hK, hD0⟩ := hB
  subst hsz
  have hD := hD0.self (sz := s.heap.size)
  generalize hAe : va_A [(ob, .inr (4, [.ref ahl, .int (nI nh), .ref abl, .int (nI nb), .ref asr, .ref pb, .ref atr, .int (nI nt), .ref tb, .ref mt])), (asr, .inl (cI, 24, .inl fsr)), (tb, .inr (0, [.long tx0, .long ty0, .long tx1, .long ty1, .long tdx, .long tdy])), (pb, .inr (0, [.long px0, .long py0, .long px1, .long py1, .long pdx, .long pdy]))] s.heap.size = A at hD ⊢
  have hA : ∀ q : Nat, s.heap.size ≤ q → A q := fun q h => by rw [← hAe]; exact Or.inr h
  have hS : va_S A s.heap s.heap [] := va_S.rf
  have hl : lv_has ls 5 [(0, .ref ob), (1, .int (nI i)), (2, .int (nI j)), (3, .int (bI b))] := hl
  have hi4 : ∀ w ∈ u_ws RX4 TX4 10, w ∈ wsX4_tile := by decide +kernel
  have f21 := hts (.fieldLink RX4 21 "SweptBoxes" "solidRows" "[I") (by decide +kernel)
  have f26 := hts (.fieldLink RX4 26 "SweptBoxes" "playerBox" "LSweptBoxes$Block;") (by decide +kernel)
  have f36 := hts (.fieldLink RX4 36 "SweptBoxes" "tileBlock" "LSweptBoxes$Block;") (by decide +kernel)
  refine lv_iload_n hx hb dX4_tile_0 rfl (lv_at hl 1 rfl) ?_
  refine lv_bipush (v := (nI 24)) hx hb dX4_tile_1 (by decide) ?_
  refine kmSv (As := [.int (nI i), .int (nI 24)]) (rest := []) (WC := []) (W2 := []) (WR := [(ob, .inr (4, [.ref ahl, .int (nI nh), .ref abl, .int (nI nb), .ref asr, .ref pb, .ref atr, .int (nI nt), .ref tb, .ref mt])), (asr, .inl (cI, 24, .inl fsr)), (tb, .inr (0, [.long tx0, .long ty0, .long tx1, .long ty1, .long tdx, .long tdy])), (pb, .inr (0, [.long px0, .long py0, .long px1, .long py1, .long pdx, .long pdy]))]) (WN := [(ob, .inr (4, [.ref ahl, .int (nI nh), .ref abl, .int (nI nb), .ref asr, .ref pb, .ref atr, .int (nI nt), .ref tb, .ref mt])), (asr, .inl (cI, 24, .inl fsr)), (tb, .inr (0, [.long tx0, .long ty0, .long tx1, .long ty1, .long tdx, .long tdy])), (pb, .inr (0, [.long px0, .long py0, .long px1, .long py1, .long pdx, .long pdy]))]) (tyC := []) (isC := []) (isR := [0, 1, 2, 3]) (isN := [0, 1, 2, 3]) (its := []) ⟨hx, hb, hml, hown, hts⟩ (tX4_needIndex_o l dC dI i 24 (by omega) (by omega)) (va_cwS 2 hts gX4_tile_X4_needIndex rfl rfl rfl (by decide +kernel) ⟨Nat.le_of_ble_eq_true rfl, Nat.le_of_ble_eq_true rfl⟩) hP hD hA hS hK rfl (by decide) rfl (by decide) (by decide) rfl (by decide) rfl rfl rfl hl.1 (Nat.le_of_ble_eq_true rfl) dX4_tile_3 ⟨Nat.le_of_ble_eq_true rfl, Nat.le_of_ble_eq_true rfl⟩ (fun H locs hP hD hS => ?_)
  refine lv_iload_n hx hb dX4_tile_6 rfl (lv_at hl 2 rfl) ?_
  refine lv_bipush (v := (nI 24)) hx hb dX4_tile_7 (by decide) ?_
  refine kmSv (As := [.int (nI j), .int (nI 24)]) (rest := []) (WC := []) (W2 := []) (WR := [(ob, .inr (4, [.ref ahl, .int (nI nh), .ref abl, .int (nI nb), .ref asr, .ref pb, .ref atr, .int (nI nt), .ref tb, .ref mt])), (asr, .inl (cI, 24, .inl fsr)), (tb, .inr (0, [.long tx0, .long ty0, .long tx1, .long ty1, .long tdx, .long tdy])), (pb, .inr (0, [.long px0, .long py0, .long px1, .long py1, .long pdx, .long pdy]))]) (WN := [(ob, .inr (4, [.ref ahl, .int (nI nh), .ref abl, .int (nI nb), .ref asr, .ref pb, .ref atr, .int (nI nt), .ref tb, .ref mt])), (asr, .inl (cI, 24, .inl fsr)), (tb, .inr (0, [.long tx0, .long ty0, .long tx1, .long ty1, .long tdx, .long tdy])), (pb, .inr (0, [.long px0, .long py0, .long px1, .long py1, .long pdx, .long pdy]))]) (tyC := []) (isC := []) (isR := [0, 1, 2, 3]) (isN := [0, 1, 2, 3]) (its := []) ⟨hx, hb, hml, hown, hts⟩ (tX4_needIndex_o l dC dI j 24 (by omega) (by omega)) (va_cwS 2 hts gX4_tile_X4_needIndex rfl rfl rfl (by decide +kernel) ⟨Nat.le_of_ble_eq_true rfl, Nat.le_of_ble_eq_true rfl⟩) hP hD hA hS hK rfl (by decide) rfl (by decide) (by decide) rfl (by decide) rfl rfl rfl hl.1 (Nat.le_of_ble_eq_true rfl) dX4_tile_9 ⟨Nat.le_of_ble_eq_true rfl, Nat.le_of_ble_eq_true rfl⟩ (fun H locs hP hD hS => ?_)
  refine lv_aload_n hx hb dX4_tile_12 rfl (lv_at hl 0 rfl) ?_
  refine va_get (D := (dC, dI)) (ci := 4) (v := .ref tb) (C := RX4) (T := TX4) (N := 10) hx hb hts hi4 hown hK hP 0 rfl rfl 8 (by decide) f36 (fun _ h9 => h9) rfl dX4_tile_13 ?_
  refine lv_iload_n hx hb dX4_tile_16 rfl (lv_at hl 1 rfl) ?_
  refine lv_iload_n hx hb dX4_tile_17 rfl (lv_at hl 2 rfl) ?_
  refine kmVv (q0 := 0) (ci := 0) (As := [.int (nI i), .int (nI j)]) (rest := []) (WC := [(tb, .inr (0, [.long tx0, .long ty0, .long tx1, .long ty1, .long tdx, .long tdy]))]) (W2 := [(tb, .inr (0, [.long (16 * (nI i).toInt64), .long (16 * (nI j).toInt64), .long ((16 * (nI i).toInt64) + 16), .long ((16 * (nI j).toInt64) + 16), .long 0, .long 0]))]) (WR := [(ob, .inr (4, [.ref ahl, .int (nI nh), .ref abl, .int (nI nb), .ref asr, .ref pb, .ref atr, .int (nI nt), .ref tb, .ref mt])), (asr, .inl (cI, 24, .inl fsr)), (pb, .inr (0, [.long px0, .long py0, .long px1, .long py1, .long pdx, .long pdy]))]) (WN := [(ob, .inr (4, [.ref ahl, .int (nI nh), .ref abl, .int (nI nb), .ref asr, .ref pb, .ref atr, .int (nI nt), .ref tb, .ref mt])), (asr, .inl (cI, 24, .inl fsr)), (tb, .inr (0, [.long (16 * (nI i).toInt64), .long (16 * (nI j).toInt64), .long ((16 * (nI i).toInt64) + 16), .long ((16 * (nI j).toInt64) + 16), .long 0, .long 0])), (pb, .inr (0, [.long px0, .long py0, .long px1, .long py1, .long pdx, .long pdy]))]) (tyC := []) (isC := [2]) (isR := [0, 1, 3]) (isN := [0, 1, 3, 2]) (its := []) ⟨hx, hb, hml, hown, hts⟩ (tX0_putTile l dC dI tb tx0 ty0 tx1 ty1 tdx tdy (nI i) (nI j)) (cwV 2 hts gX4_tile_X0_putTile rfl rfl rfl (by decide +kernel) ⟨Nat.le_of_ble_eq_true rfl, Nat.le_of_ble_eq_true rfl⟩) hP hD hA hS hK rfl (by decide) rfl (by decide) (by decide) rfl (by decide) rfl rfl rfl rfl rfl hl.1 (Nat.le_of_ble_eq_true rfl) dX4_tile_18 ⟨Nat.le_of_ble_eq_true rfl, Nat.le_of_ble_eq_true rfl⟩ (fun H locs hP hD hS => ?_)
  refine lv_iload_n hx hb dX4_tile_21 rfl (lv_at hl 3 rfl) ?_
  refine lv_if_eq (tgt := 49) hx hb dX4_tile_22 (by decide) (fun c22 => ?_) (fun c22 => ?_)
  · replace c22 := bI_0 c22
    refine lv_aload_n hx hb dX4_tile_49 rfl (lv_at hl 0 rfl) ?_
    refine lv_iload_n hx hb dX4_tile_50 rfl (lv_at hl 1 rfl) ?_
    refine lv_iload_n hx hb dX4_tile_51 rfl (lv_at hl 2 rfl) ?_
    refine kpVi (q0 := 0) (ci := 4) (As := [.int (nI i), .int (nI j)]) (rest := []) (WC := [(ob, .inr (4, [.ref ahl, .int (nI nh), .ref abl, .int (nI nb), .ref asr, .ref pb, .ref atr, .int (nI nt), .ref tb, .ref mt])), (asr, .inl (cI, 24, .inl fsr))]) (tyC := [(cI, .int)]) ⟨hx, hb, hml, hown, hts⟩ (tX4_isSolid l dC dI cI ob ahl nh abl nb asr pb atr nt tb mt fsr i j (by omega)) (cwV 2 hts gX4_tile_X4_isSolid rfl rfl rfl (by decide +kernel) ⟨Nat.le_of_ble_eq_true rfl, Nat.le_of_ble_eq_true rfl⟩) (kPick (isC := [0, 1]) hP rfl) (hK.sub [0] rfl) rfl rfl rfl rfl hl.1 (Nat.le_of_ble_eq_true rfl) dX4_tile_52 ⟨Nat.le_of_ble_eq_true rfl, Nat.le_of_ble_eq_true rfl⟩ ?_
    refine lv_iload_n hx hb dX4_tile_55 rfl (lv_at hl 3 rfl) ?_
    refine lv_icmp_eq (tgt := 63) hx hb dX4_tile_56 (by decide) (fun c56 => ?_) (fun c56 => ?_)
    · skip
      exact absurd c56 (fun z => hs (bI_inj z))
    · skip
      refine lv_iconst (v := (nI 1)) hx hb dX4_tile_59 (by decide) ?_
      refine lv_goto (tgt := 64) hx hb dX4_tile_60 (by decide) ?_
      refine lv_istore (lv' := [(4, .int (nI 1)), (0, .ref ob), (1, .int (nI i)), (2, .int (nI j)), (3, .int (bI b))]) hx hb dX4_tile_64 hl (by decide) rfl (fun ls hl => ?_)
      refine lv_iload hx hb dX4_tile_66 (lv_at hl 0 rfl) ?_
      refine lv_if_eq (tgt := 83) hx hb dX4_tile_68 (by decide) (fun c68 => ?_) (fun c68 => ?_)
      · skip
        exact absurd c68 (by decide)
      · rw [← nI_0, nI_eq (by omega) (by omega)] at c68
        refine lv_aload_n hx hb dX4_tile_71 rfl (lv_at hl 1 rfl) ?_
        refine va_get (D := (dC, dI)) (ci := 4) (v := .ref asr) (C := RX4) (T := TX4) (N := 10) hx hb hts hi4 hown hK hP 0 rfl rfl 4 (by decide) f21 (fun _ h9 => h9) rfl dX4_tile_72 ?_
        refine lv_iload_n hx hb dX4_tile_75 rfl (lv_at hl 3 rfl) ?_
        refine lv_dup2_11 hx hb dX4_tile_76 rfl rfl ?_
        refine va_iald hx hb hK hP 1 0 rfl rfl (vp_in_nI (show j < 24 by omega) (by omega)) dX4_tile_77 ?_
        rw [show (nI j).toNatClampNeg = j from nI_clamp (show j < 2 ^ 31 by omega)]
        refine lv_iconst (v := (nI 1)) hx hb dX4_tile_78 (by decide) ?_
        refine lv_iload_n hx hb dX4_tile_79 rfl (lv_at hl 2 rfl) ?_
        refine lv_ishl hx hb dX4_tile_80 ?_
        refine lv_ixor hx hb dX4_tile_81 ?_
        refine va_iast hx hb hK hP hD hS 1 0 rfl rfl (vp_in_nI (show j < 24 by omega) (by omega)) dX4_tile_82 (fun H locs hP hD hS => ?_)
        rw [show (nI j).toNatClampNeg = j from nI_clamp (show j < 2 ^ 31 by omega)] at hP hD
        have hP : va_P (dC, dI) vwCl [(ob, .inr (4, [.ref ahl, .int (nI nh), .ref abl, .int (nI nb), .ref asr, .ref pb, .ref atr, .int (nI nt), .ref tb, .ref mt])), (asr, .inl (cI, 24, .inl (upd fsr j ((fsr j) ^^^ ((nI 1) <<< ((nI i) &&& 31)))))), (tb, .inr (0, [.long (16 * (nI i).toInt64), .long (16 * (nI j).toInt64), .long ((16 * (nI i).toInt64) + 16), .long ((16 * (nI j).toInt64) + 16), .long 0, .long 0])), (pb, .inr (0, [.long px0, .long py0, .long px1, .long py1, .long pdx, .long pdy]))] H := hP
        have hD : va_D A [(ob, .inr (4, [.ref ahl, .int (nI nh), .ref abl, .int (nI nb), .ref asr, .ref pb, .ref atr, .int (nI nt), .ref tb, .ref mt])), (asr, .inl (cI, 24, .inl (upd fsr j ((fsr j) ^^^ ((nI 1) <<< ((nI i) &&& 31)))))), (tb, .inr (0, [.long (16 * (nI i).toInt64), .long (16 * (nI j).toInt64), .long ((16 * (nI i).toInt64) + 16), .long ((16 * (nI j).toInt64) + 16), .long 0, .long 0])), (pb, .inr (0, [.long px0, .long py0, .long px1, .long py1, .long pdx, .long pdy]))] := hD
        refine lv_iload hx hb dX4_tile_83 (lv_at hl 0 rfl) ?_
        exact kEz hx hb hr hlocks hP hK hD hS dX4_tile_85 rfl
  · replace c22 := bI_n c22
    refine lv_aload_n hx hb dX4_tile_25 rfl (lv_at hl 0 rfl) ?_
    refine va_get (D := (dC, dI)) (ci := 4) (v := .ref tb) (C := RX4) (T := TX4) (N := 10) hx hb hts hi4 hown hK hP 0 rfl rfl 8 (by decide) f36 (fun _ h9 => h9) rfl dX4_tile_26 ?_
    refine lv_aload_n hx hb dX4_tile_29 rfl (lv_at hl 0 rfl) ?_
    refine va_get (D := (dC, dI)) (ci := 4) (v := .ref pb) (C := RX4) (T := TX4) (N := 10) hx hb hts hi4 hown hK hP 0 rfl rfl 5 (by decide) f26 (fun _ h9 => h9) rfl dX4_tile_30 ?_
    refine kpVi (q0 := 0) (ci := 0) (As := [.ref pb]) (rest := []) (WC := [(tb, .inr (0, [.long (16 * (nI i).toInt64), .long (16 * (nI j).toInt64), .long ((16 * (nI i).toInt64) + 16), .long ((16 * (nI j).toInt64) + 16), .long 0, .long 0])), (pb, .inr (0, [.long px0, .long py0, .long px1, .long py1, .long pdx, .long pdy]))]) (tyC := []) ⟨hx, hb, hml, hown, hts⟩ (tX0_liesOver l dC dI tb (16 * (nI i).toInt64) (16 * (nI j).toInt64) ((16 * (nI i).toInt64) + 16) ((16 * (nI j).toInt64) + 16) 0 0 pb px0 py0 px1 py1 pdx pdy) (cwV 1 hts gX4_tile_X0_liesOver rfl rfl rfl (by decide +kernel) ⟨Nat.le_of_ble_eq_true rfl, Nat.le_of_ble_eq_true rfl⟩) (kPick (isC := [2, 3]) hP rfl) (hK.sub [] rfl) rfl rfl rfl rfl hl.1 (Nat.le_of_ble_eq_true rfl) dX4_tile_33 ⟨Nat.le_of_ble_eq_true rfl, Nat.le_of_ble_eq_true rfl⟩ ?_
    refine lv_if_eq (tgt := 49) hx hb dX4_tile_36 (by decide) (fun c36 => ?_) (fun c36 => ?_)
    · replace c36 := bI_0 c36; replace c36 := of_decide_eq_false c36
      refine lv_aload_n hx hb dX4_tile_49 rfl (lv_at hl 0 rfl) ?_
      refine lv_iload_n hx hb dX4_tile_50 rfl (lv_at hl 1 rfl) ?_
      refine lv_iload_n hx hb dX4_tile_51 rfl (lv_at hl 2 rfl) ?_
      refine kpVi (q0 := 0) (ci := 4) (As := [.int (nI i), .int (nI j)]) (rest := []) (WC := [(ob, .inr (4, [.ref ahl, .int (nI nh), .ref abl, .int (nI nb), .ref asr, .ref pb, .ref atr, .int (nI nt), .ref tb, .ref mt])), (asr, .inl (cI, 24, .inl fsr))]) (tyC := [(cI, .int)]) ⟨hx, hb, hml, hown, hts⟩ (tX4_isSolid l dC dI cI ob ahl nh abl nb asr pb atr nt tb mt fsr i j (by omega)) (cwV 2 hts gX4_tile_X4_isSolid rfl rfl rfl (by decide +kernel) ⟨Nat.le_of_ble_eq_true rfl, Nat.le_of_ble_eq_true rfl⟩) (kPick (isC := [0, 1]) hP rfl) (hK.sub [0] rfl) rfl rfl rfl rfl hl.1 (Nat.le_of_ble_eq_true rfl) dX4_tile_52 ⟨Nat.le_of_ble_eq_true rfl, Nat.le_of_ble_eq_true rfl⟩ ?_
      refine lv_iload_n hx hb dX4_tile_55 rfl (lv_at hl 3 rfl) ?_
      refine lv_icmp_eq (tgt := 63) hx hb dX4_tile_56 (by decide) (fun c56 => ?_) (fun c56 => ?_)
      · skip
        exact absurd c56 (fun z => hs (bI_inj z))
      · skip
        refine lv_iconst (v := (nI 1)) hx hb dX4_tile_59 (by decide) ?_
        refine lv_goto (tgt := 64) hx hb dX4_tile_60 (by decide) ?_
        refine lv_istore (lv' := [(4, .int (nI 1)), (0, .ref ob), (1, .int (nI i)), (2, .int (nI j)), (3, .int (bI b))]) hx hb dX4_tile_64 hl (by decide) rfl (fun ls hl => ?_)
        refine lv_iload hx hb dX4_tile_66 (lv_at hl 0 rfl) ?_
        refine lv_if_eq (tgt := 83) hx hb dX4_tile_68 (by decide) (fun c68 => ?_) (fun c68 => ?_)
        · skip
          exact absurd c68 (by decide)
        · rw [← nI_0, nI_eq (by omega) (by omega)] at c68
          refine lv_aload_n hx hb dX4_tile_71 rfl (lv_at hl 1 rfl) ?_
          refine va_get (D := (dC, dI)) (ci := 4) (v := .ref asr) (C := RX4) (T := TX4) (N := 10) hx hb hts hi4 hown hK hP 0 rfl rfl 4 (by decide) f21 (fun _ h9 => h9) rfl dX4_tile_72 ?_
          refine lv_iload_n hx hb dX4_tile_75 rfl (lv_at hl 3 rfl) ?_
          refine lv_dup2_11 hx hb dX4_tile_76 rfl rfl ?_
          refine va_iald hx hb hK hP 1 0 rfl rfl (vp_in_nI (show j < 24 by omega) (by omega)) dX4_tile_77 ?_
          rw [show (nI j).toNatClampNeg = j from nI_clamp (show j < 2 ^ 31 by omega)]
          refine lv_iconst (v := (nI 1)) hx hb dX4_tile_78 (by decide) ?_
          refine lv_iload_n hx hb dX4_tile_79 rfl (lv_at hl 2 rfl) ?_
          refine lv_ishl hx hb dX4_tile_80 ?_
          refine lv_ixor hx hb dX4_tile_81 ?_
          refine va_iast hx hb hK hP hD hS 1 0 rfl rfl (vp_in_nI (show j < 24 by omega) (by omega)) dX4_tile_82 (fun H locs hP hD hS => ?_)
          rw [show (nI j).toNatClampNeg = j from nI_clamp (show j < 2 ^ 31 by omega)] at hP hD
          have hP : va_P (dC, dI) vwCl [(ob, .inr (4, [.ref ahl, .int (nI nh), .ref abl, .int (nI nb), .ref asr, .ref pb, .ref atr, .int (nI nt), .ref tb, .ref mt])), (asr, .inl (cI, 24, .inl (upd fsr j ((fsr j) ^^^ ((nI 1) <<< ((nI i) &&& 31)))))), (tb, .inr (0, [.long (16 * (nI i).toInt64), .long (16 * (nI j).toInt64), .long ((16 * (nI i).toInt64) + 16), .long ((16 * (nI j).toInt64) + 16), .long 0, .long 0])), (pb, .inr (0, [.long px0, .long py0, .long px1, .long py1, .long pdx, .long pdy]))] H := hP
          have hD : va_D A [(ob, .inr (4, [.ref ahl, .int (nI nh), .ref abl, .int (nI nb), .ref asr, .ref pb, .ref atr, .int (nI nt), .ref tb, .ref mt])), (asr, .inl (cI, 24, .inl (upd fsr j ((fsr j) ^^^ ((nI 1) <<< ((nI i) &&& 31)))))), (tb, .inr (0, [.long (16 * (nI i).toInt64), .long (16 * (nI j).toInt64), .long ((16 * (nI i).toInt64) + 16), .long ((16 * (nI j).toInt64) + 16), .long 0, .long 0])), (pb, .inr (0, [.long px0, .long py0, .long px1, .long py1, .long pdx, .long pdy]))] := hD
          refine lv_iload hx hb dX4_tile_83 (lv_at hl 0 rfl) ?_
          exact kEz hx hb hr hlocks hP hK hD hS dX4_tile_85 rfl
    · replace c36 := bI_n c36; replace c36 := of_decide_eq_true c36
      exact absurd c36 (hno c22)

set_option maxHeartbeats 4000000 in
set_option maxRecDepth 100000 in
theorem tX4_player_b (l : Launch) (dC : Nat → ClassId) (dI : Nat → Nat → Nat) (cI : ClassId) (ob ahl nh abl nb asr pb atr nt tb mt : Nat) (fsr : Nat → Int32) (tx0 ty0 tx1 ty1 tdx tdy : Int64) (px0 py0 px1 py1 pdx pdy : Int64) (x y w h : Int64) (hok : (-10000 ≤ x ∧ x ≤ 10000) ∧ (-10000 ≤ y ∧ y ≤ 10000) ∧ 1 ≤ w ∧ w ≤ 64 ∧ 1 ≤ h ∧ h ≤ 64) (hbl : cBlocked fsr x y (x + w) (y + h)) : XMi l yX4_player wsX4_player { frames := 4, cells := 0, slots := 0, locals := 107 } [.ref ob, .long x, .long y, .long w, .long h] (dC, dI) [(ob, .inr (4, [.ref ahl, .int (nI nh), .ref abl, .int (nI nb), .ref asr, .ref pb, .ref atr, .int (nI nt), .ref tb, .ref mt])), (asr, .inl (cI, 24, .inl fsr)), (tb, .inr (0, [.long tx0, .long ty0, .long tx1, .long ty1, .long tdx, .long tdy])), (pb, .inr (0, [.long px0, .long py0, .long px1, .long py1, .long pdx, .long pdy]))] (fun (u : Int64 × Int64 × Int64 × Int64 × Int64 × Int64) => [(ob, .inr (4, [.ref ahl, .int (nI nh), .ref abl, .int (nI nb), .ref asr, .ref pb, .ref atr, .int (nI nt), .ref tb, .ref mt])), (asr, .inl (cI, 24, .inl fsr)), (tb, .inr (0, [.long u.1, .long u.2.1, .long u.2.2.1, .long u.2.2.2.1, .long u.2.2.2.2.1, .long u.2.2.2.2.2])), (pb, .inr (0, [.long px0, .long py0, .long px1, .long py1, .long pdx, .long pdy]))]) [(cI, .int)] (bI false) := by
  intro sz
  refine kOf (cc := cX4_player) (maxL := 9) (ret := (some .boolean)) (by decide) rfl (Nat.le_of_ble_eq_true rfl) ?_
  intro p e s m below meth c hx hb hr hml hts hown hlocks hB ls hl
  obtain ⟨hsz, hP, hK, hD0⟩ := hB
  subst hsz
  have hD := hD0.self (sz := s.heap.size)
  generalize hAe : va_A [(ob, .inr (4, [.ref ahl, .int (nI nh), .ref abl, .int (nI nb), .ref asr, .ref pb, .ref atr, .int (nI nt), .ref tb, .ref mt])), (asr, .inl (cI, 24, .inl fsr)), (tb, .inr (0, [.long tx0, .long ty0, .long tx1, .long ty1, .long tdx, .long tdy])), (pb, .inr (0, [.long px0, .long py0, .long px1, .long py1, .long pdx, .long pdy]))] s.heap.size = A at hD ⊢
  have hA : ∀ q : Nat, s.heap.size ≤ q → A q := fun q h => by rw [← hAe]; exact Or.inr h
  have hS : va_S A s.heap s.heap [] := va_S.rf
  have hl : lv_has ls 9 [(0, .ref ob), (1, .long x), (3, .long y), (5, .long w), (7, .long h)] := hl
  refine lv_lload_n hx hb dX4_player_0 rfl (lv_at hl 1 rfl) ?_
  refine lv_lload_n hx hb dX4_player_1 rfl (lv_at hl 2 rfl) ?_
  refine kmSv (As := [.long x, .long y]) (rest := []) (WC := []) (W2 := []) (WR := [(ob, .inr (4, [.ref ahl, .int (nI nh), .ref abl, .int (nI nb), .ref asr, .ref pb, .ref atr, .int (nI nt), .ref tb, .ref mt])), (asr, .inl (cI, 24, .inl fsr)), (tb, .inr (0, [.long tx0, .long ty0, .long tx1, .long ty1, .long tdx, .long tdy])), (pb, .inr (0, [.long px0, .long py0, .long px1, .long py1, .long pdx, .long pdy]))]) (WN := [(ob, .inr (4, [.ref ahl, .int (nI nh), .ref abl, .int (nI nb), .ref asr, .ref pb, .ref atr, .int (nI nt), .ref tb, .ref mt])), (asr, .inl (cI, 24, .inl fsr)), (tb, .inr (0, [.long tx0, .long ty0, .long tx1, .long ty1, .long tdx, .long tdy])), (pb, .inr (0, [.long px0, .long py0, .long px1, .long py1, .long pdx, .long pdy]))]) (tyC := []) (isC := []) (isR := [0, 1, 2, 3]) (isN := [0, 1, 2, 3]) (its := []) ⟨hx, hb, hml, hown, hts⟩ (tX4_needInRange_o l dC dI x y ⟨hok.1, hok.2.1⟩) (va_cwS 2 hts gX4_player_X4_needInRange rfl rfl rfl (by decide +kernel) ⟨Nat.le_of_ble_eq_true rfl, Nat.le_of_ble_eq_true rfl⟩) hP hD hA hS hK rfl (by decide) rfl (by decide) (by decide) rfl (by decide) rfl rfl rfl hl.1 (Nat.le_of_ble_eq_true rfl) dX4_player_2 ⟨Nat.le_of_ble_eq_true rfl, Nat.le_of_ble_eq_true rfl⟩ (fun H locs hP hD hS => ?_)
  refine lv_lload hx hb dX4_player_5 (lv_at hl 3 rfl) ?_
  refine lv_lconst (v := 1) hx hb dX4_player_7 (by decide) ?_
  refine W.lcmp hx hb dX4_player_8 ?_
  refine lv_if_lt (tgt := 37) hx hb dX4_player_9 (by decide) (fun c9 => ?_) (fun c9 => ?_)
  · rw [lg_cmp_lt] at c9
    exact absurd hok.2.2.1 (Int64.not_le.mpr c9)
  · rw [lg_cmp_lt, Int64.not_lt] at c9
    refine lv_lload hx hb dX4_player_12 (lv_at hl 3 rfl) ?_
    refine lv_ldc2 hx hb hown (hts (.constantLong RX4 150 (64)) (by decide +kernel)) dX4_player_14 ?_
    refine W.lcmp hx hb dX4_player_17 ?_
    refine lv_if_gt (tgt := 37) hx hb dX4_player_18 (by decide) (fun c18 => ?_) (fun c18 => ?_)
    · rw [lg_cmp_gt] at c18
      exact absurd hok.2.2.2.1 (Int64.not_le.mpr c18)
    · rw [lg_cmp_gt, Int64.not_lt] at c18
      refine lv_lload hx hb dX4_player_21 (lv_at hl 4 rfl) ?_
      refine lv_lconst (v := 1) hx hb dX4_player_23 (by decide) ?_
      refine W.lcmp hx hb dX4_player_24 ?_
      refine lv_if_lt (tgt := 37) hx hb dX4_player_25 (by decide) (fun c25 => ?_) (fun c25 => ?_)
      · rw [lg_cmp_lt] at c25
        exact absurd hok.2.2.2.2.1 (Int64.not_le.mpr c25)
      · rw [lg_cmp_lt, Int64.not_lt] at c25
        refine lv_lload hx hb dX4_player_28 (lv_at hl 4 rfl) ?_
        refine lv_ldc2 hx hb hown (hts (.constantLong RX4 150 (64)) (by decide +kernel)) dX4_player_30 ?_
        refine W.lcmp hx hb dX4_player_33 ?_
        refine lv_if_le (tgt := 47) hx hb dX4_player_34 (by decide) (fun c34 => ?_) (fun c34 => ?_)
        · rw [lg_cmp_le] at c34
          refine lv_aload_n hx hb dX4_player_47 rfl (lv_at hl 0 rfl) ?_
          refine lv_lload_n hx hb dX4_player_48 rfl (lv_at hl 1 rfl) ?_
          refine lv_lload_n hx hb dX4_player_49 rfl (lv_at hl 2 rfl) ?_
          refine lv_lload_n hx hb dX4_player_50 rfl (lv_at hl 1 rfl) ?_
          refine lv_lload hx hb dX4_player_51 (lv_at hl 3 rfl) ?_
          refine lv_ladd hx hb dX4_player_53 ?_
          refine lv_lload_n hx hb dX4_player_54 rfl (lv_at hl 2 rfl) ?_
          refine lv_lload hx hb dX4_player_55 (lv_at hl 4 rfl) ?_
          refine lv_ladd hx hb dX4_player_57 ?_
          refine kxVi (q0 := 0) (ci := 4) (As := [.long x, .long y, .long (x + w), .long (y + h)]) (rest := []) (WC := [(ob, .inr (4, [.ref ahl, .int (nI nh), .ref abl, .int (nI nb), .ref asr, .ref pb, .ref atr, .int (nI nt), .ref tb, .ref mt])), (asr, .inl (cI, 24, .inl fsr)), (tb, .inr (0, [.long tx0, .long ty0, .long tx1, .long ty1, .long tdx, .long tdy]))]) (W2 := (fun (u : Int64 × Int64 × Int64 × Int64 × Int64 × Int64) => [(ob, .inr (4, [.ref ahl, .int (nI nh), .ref abl, .int (nI nb), .ref asr, .ref pb, .ref atr, .int (nI nt), .ref tb, .ref mt])), (asr, .inl (cI, 24, .inl fsr)), (tb, .inr (0, [.long u.1, .long u.2.1, .long u.2.2.1, .long u.2.2.2.1, .long u.2.2.2.2.1, .long u.2.2.2.2.2]))])) (WR := [(pb, .inr (0, [.long px0, .long py0, .long px1, .long py1, .long pdx, .long pdy]))]) (WN := (fun (u : Int64 × Int64 × Int64 × Int64 × Int64 × Int64) => [(ob, .inr (4, [.ref ahl, .int (nI nh), .ref abl, .int (nI nb), .ref asr, .ref pb, .ref atr, .int (nI nt), .ref tb, .ref mt])), (asr, .inl (cI, 24, .inl fsr)), (tb, .inr (0, [.long u.1, .long u.2.1, .long u.2.2.1, .long u.2.2.2.1, .long u.2.2.2.2.1, .long u.2.2.2.2.2])), (pb, .inr (0, [.long px0, .long py0, .long px1, .long py1, .long pdx, .long pdy]))])) (tyC := [(cI, .int)]) (isC := [0, 1, 2]) (isR := [3]) (isN := [1, 2, 3, 0]) (its := [0]) ⟨hx, hb, hml, hown, hts⟩ (tX4_isBlocked l dC dI cI ob ahl nh abl nb asr pb atr nt tb mt fsr tx0 ty0 tx1 ty1 tdx tdy x y (x + w) (y + h) (ir_m hok.1) (ir_m hok.2.1) (ir_s hok.1 hok.2.2.1 hok.2.2.2.1) (ir_s hok.2.1 hok.2.2.2.2.1 hok.2.2.2.2.2)) (cwV 4 hts gX4_player_X4_isBlocked rfl rfl rfl (by decide +kernel) ⟨Nat.le_of_ble_eq_true rfl, Nat.le_of_ble_eq_true rfl⟩) hP hD hA hS hK rfl (by decide) rfl (by decide) (by decide) (fun _ => rfl) (by decide) rfl rfl rfl rfl rfl hl.1 (Nat.le_of_ble_eq_true rfl) dX4_player_58 ⟨Nat.le_of_ble_eq_true rfl, Nat.le_of_ble_eq_true rfl⟩ (fun uu H locs hP hD hS => ?_)
          obtain ⟨g1, g2, g3, g4, g5, g6⟩ := uu
          have hP : va_P (dC, dI) vwCl [(ob, .inr (4, [.ref ahl, .int (nI nh), .ref abl, .int (nI nb), .ref asr, .ref pb, .ref atr, .int (nI nt), .ref tb, .ref mt])), (asr, .inl (cI, 24, .inl fsr)), (tb, .inr (0, [.long g1, .long g2, .long g3, .long g4, .long g5, .long g6])), (pb, .inr (0, [.long px0, .long py0, .long px1, .long py1, .long pdx, .long pdy]))] H := hP
          have hD : va_D A [(ob, .inr (4, [.ref ahl, .int (nI nh), .ref abl, .int (nI nb), .ref asr, .ref pb, .ref atr, .int (nI nt), .ref tb, .ref mt])), (asr, .inl (cI, 24, .inl fsr)), (tb, .inr (0, [.long g1, .long g2, .long g3, .long g4, .long g5, .long g6])), (pb, .inr (0, [.long px0, .long py0, .long px1, .long py1, .long pdx, .long pdy]))] := hD
          refine lv_if_eq (tgt := 66) hx hb dX4_player_61 (by decide) (fun c61 => ?_) (fun c61 => ?_)
          · replace c61 := bI_0 c61; replace c61 := pB_not c61
            exact absurd hbl c61
          · replace c61 := bI_n c61; replace c61 := pB_iff.mp c61
            refine lv_iconst (v := (nI 0)) hx hb dX4_player_64 (by decide) ?_
            exact kXz (u := (g1, g2, g3, g4, g5, g6)) hx hb hr hlocks hP hK hD hS dX4_player_65 rfl
        · rw [lg_cmp_le, Int64.not_le] at c34
          exact absurd hok.2.2.2.2.2 (Int64.not_le.mpr c34)

set_option maxHeartbeats 4000000 in
set_option maxRecDepth 100000 in
theorem tX4_player_o (l : Launch) (dC : Nat → ClassId) (dI : Nat → Nat → Nat) (cI : ClassId) (ob ahl nh abl nb asr pb atr nt tb mt : Nat) (fsr : Nat → Int32) (tx0 ty0 tx1 ty1 tdx tdy : Int64) (px0 py0 px1 py1 pdx pdy : Int64) (x y w h : Int64) (hok : (-10000 ≤ x ∧ x ≤ 10000) ∧ (-10000 ≤ y ∧ y ≤ 10000) ∧ 1 ≤ w ∧ w ≤ 64 ∧ 1 ≤ h ∧ h ≤ 64) (hbl : ¬ cBlocked fsr x y (x + w) (y + h)) : XMi l yX4_player wsX4_player { frames := 4, cells := 0, slots := 0, locals := 107 } [.ref ob, .long x, .long y, .long w, .long h] (dC, dI) [(ob, .inr (4, [.ref ahl, .int (nI nh), .ref abl, .int (nI nb), .ref asr, .ref pb, .ref atr, .int (nI nt), .ref tb, .ref mt])), (asr, .inl (cI, 24, .inl fsr)), (tb, .inr (0, [.long tx0, .long ty0, .long tx1, .long ty1, .long tdx, .long tdy])), (pb, .inr (0, [.long px0, .long py0, .long px1, .long py1, .long pdx, .long pdy]))] (fun (u : Int64 × Int64 × Int64 × Int64 × Int64 × Int64) => [(ob, .inr (4, [.ref ahl, .int (nI nh), .ref abl, .int (nI nb), .ref asr, .ref pb, .ref atr, .int (nI nt), .ref tb, .ref mt])), (asr, .inl (cI, 24, .inl fsr)), (tb, .inr (0, [.long u.1, .long u.2.1, .long u.2.2.1, .long u.2.2.2.1, .long u.2.2.2.2.1, .long u.2.2.2.2.2])), (pb, .inr (0, [.long x, .long y, .long (x + w), .long (y + h), .long 0, .long 0]))]) [(cI, .int)] (bI true) := by
  intro sz
  refine kOf (cc := cX4_player) (maxL := 9) (ret := (some .boolean)) (by decide) rfl (Nat.le_of_ble_eq_true rfl) ?_
  intro p e s m below meth c hx hb hr hml hts hown hlocks hB ls hl
  obtain ⟨hsz, hP, hK, hD0⟩ := hB
  subst hsz
  have hD := hD0.self (sz := s.heap.size)
  generalize hAe : va_A [(ob, .inr (4, [.ref ahl, .int (nI nh), .ref abl, .int (nI nb), .ref asr, .ref pb, .ref atr, .int (nI nt), .ref tb, .ref mt])), (asr, .inl (cI, 24, .inl fsr)), (tb, .inr (0, [.long tx0, .long ty0, .long tx1, .long ty1, .long tdx, .long tdy])), (pb, .inr (0, [.long px0, .long py0, .long px1, .long py1, .long pdx, .long pdy]))] s.heap.size = A at hD ⊢
  have hA : ∀ q : Nat, s.heap.size ≤ q → A q := fun q h => by rw [← hAe]; exact Or.inr h
  have hS : va_S A s.heap s.heap [] := va_S.rf
  have hl : lv_has ls 9 [(0, .ref ob), (1, .long x), (3, .long y), (5, .long w), (7, .long h)] := hl
  have hi4 : ∀ w ∈ u_ws RX4 TX4 10, w ∈ wsX4_player := by decide +kernel
  have f26 := hts (.fieldLink RX4 26 "SweptBoxes" "playerBox" "LSweptBoxes$Block;") (by decide +kernel)
  refine lv_lload_n hx hb dX4_player_0 rfl (lv_at hl 1 rfl) ?_
  refine lv_lload_n hx hb dX4_player_1 rfl (lv_at hl 2 rfl) ?_
  refine kmSv (As := [.long x, .long y]) (rest := []) (WC := []) (W2 := []) (WR := [(ob, .inr (4, [.ref ahl, .int (nI nh), .ref abl, .int (nI nb), .ref asr, .ref pb, .ref atr, .int (nI nt), .ref tb, .ref mt])), (asr, .inl (cI, 24, .inl fsr)), (tb, .inr (0, [.long tx0, .long ty0, .long tx1, .long ty1, .long tdx, .long tdy])), (pb, .inr (0, [.long px0, .long py0, .long px1, .long py1, .long pdx, .long pdy]))]) (WN := [(ob, .inr (4, [.ref ahl, .int (nI nh), .ref abl, .int (nI nb), .ref asr, .ref pb, .ref atr, .int (nI nt), .ref tb, .ref mt])), (asr, .inl (cI, 24, .inl fsr)), (tb, .inr (0, [.long tx0, .long ty0, .long tx1, .long ty1, .long tdx, .long tdy])), (pb, .inr (0, [.long px0, .long py0, .long px1, .long py1, .long pdx, .long pdy]))]) (tyC := []) (isC := []) (isR := [0, 1, 2, 3]) (isN := [0, 1, 2, 3]) (its := []) ⟨hx, hb, hml, hown, hts⟩ (tX4_needInRange_o l dC dI x y ⟨hok.1, hok.2.1⟩) (va_cwS 2 hts gX4_player_X4_needInRange rfl rfl rfl (by decide +kernel) ⟨Nat.le_of_ble_eq_true rfl, Nat.le_of_ble_eq_true rfl⟩) hP hD hA hS hK rfl (by decide) rfl (by decide) (by decide) rfl (by decide) rfl rfl rfl hl.1 (Nat.le_of_ble_eq_true rfl) dX4_player_2 ⟨Nat.le_of_ble_eq_true rfl, Nat.le_of_ble_eq_true rfl⟩ (fun H locs hP hD hS => ?_)
  refine lv_lload hx hb dX4_player_5 (lv_at hl 3 rfl) ?_
  refine lv_lconst (v := 1) hx hb dX4_player_7 (by decide) ?_
  refine W.lcmp hx hb dX4_player_8 ?_
  refine lv_if_lt (tgt := 37) hx hb dX4_player_9 (by decide) (fun c9 => ?_) (fun c9 => ?_)
  · rw [lg_cmp_lt] at c9
    exact absurd hok.2.2.1 (Int64.not_le.mpr c9)
  · rw [lg_cmp_lt, Int64.not_lt] at c9
    refine lv_lload hx hb dX4_player_12 (lv_at hl 3 rfl) ?_
    refine lv_ldc2 hx hb hown (hts (.constantLong RX4 150 (64)) (by decide +kernel)) dX4_player_14 ?_
    refine W.lcmp hx hb dX4_player_17 ?_
    refine lv_if_gt (tgt := 37) hx hb dX4_player_18 (by decide) (fun c18 => ?_) (fun c18 => ?_)
    · rw [lg_cmp_gt] at c18
      exact absurd hok.2.2.2.1 (Int64.not_le.mpr c18)
    · rw [lg_cmp_gt, Int64.not_lt] at c18
      refine lv_lload hx hb dX4_player_21 (lv_at hl 4 rfl) ?_
      refine lv_lconst (v := 1) hx hb dX4_player_23 (by decide) ?_
      refine W.lcmp hx hb dX4_player_24 ?_
      refine lv_if_lt (tgt := 37) hx hb dX4_player_25 (by decide) (fun c25 => ?_) (fun c25 => ?_)
      · rw [lg_cmp_lt] at c25
        exact absurd hok.2.2.2.2.1 (Int64.not_le.mpr c25)
      · rw [lg_cmp_lt, Int64.not_lt] at c25
        refine lv_lload hx hb dX4_player_28 (lv_at hl 4 rfl) ?_
        refine lv_ldc2 hx hb hown (hts (.constantLong RX4 150 (64)) (by decide +kernel)) dX4_player_30 ?_
        refine W.lcmp hx hb dX4_player_33 ?_
        refine lv_if_le (tgt := 47) hx hb dX4_player_34 (by decide) (fun c34 => ?_) (fun c34 => ?_)
        · rw [lg_cmp_le] at c34
          refine lv_aload_n hx hb dX4_player_47 rfl (lv_at hl 0 rfl) ?_
          refine lv_lload_n hx hb dX4_player_48 rfl (lv_at hl 1 rfl) ?_
          refine lv_lload_n hx hb dX4_player_49 rfl (lv_at hl 2 rfl) ?_
          refine lv_lload_n hx hb dX4_player_50 rfl (lv_at hl 1 rfl) ?_
          refine lv_lload hx hb dX4_player_51 (lv_at hl 3 rfl) ?_
          refine lv_ladd hx hb dX4_player_53 ?_
          refine lv_lload_n hx hb dX4_player_54 rfl (lv_at hl 2 rfl) ?_
          refine lv_lload hx hb dX4_player_55 (lv_at hl 4 rfl) ?_
          refine lv_ladd hx hb dX4_player_57 ?_
          refine kxVi (q0 := 0) (ci := 4) (As := [.long x, .long y, .long (x + w), .long (y + h)]) (rest := []) (WC := [(ob, .inr (4, [.ref ahl, .int (nI nh), .ref abl, .int (nI nb), .ref asr, .ref pb, .ref atr, .int (nI nt), .ref tb, .ref mt])), (asr, .inl (cI, 24, .inl fsr)), (tb, .inr (0, [.long tx0, .long ty0, .long tx1, .long ty1, .long tdx, .long tdy]))]) (W2 := (fun (u : Int64 × Int64 × Int64 × Int64 × Int64 × Int64) => [(ob, .inr (4, [.ref ahl, .int (nI nh), .ref abl, .int (nI nb), .ref asr, .ref pb, .ref atr, .int (nI nt), .ref tb, .ref mt])), (asr, .inl (cI, 24, .inl fsr)), (tb, .inr (0, [.long u.1, .long u.2.1, .long u.2.2.1, .long u.2.2.2.1, .long u.2.2.2.2.1, .long u.2.2.2.2.2]))])) (WR := [(pb, .inr (0, [.long px0, .long py0, .long px1, .long py1, .long pdx, .long pdy]))]) (WN := (fun (u : Int64 × Int64 × Int64 × Int64 × Int64 × Int64) => [(ob, .inr (4, [.ref ahl, .int (nI nh), .ref abl, .int (nI nb), .ref asr, .ref pb, .ref atr, .int (nI nt), .ref tb, .ref mt])), (asr, .inl (cI, 24, .inl fsr)), (tb, .inr (0, [.long u.1, .long u.2.1, .long u.2.2.1, .long u.2.2.2.1, .long u.2.2.2.2.1, .long u.2.2.2.2.2])), (pb, .inr (0, [.long px0, .long py0, .long px1, .long py1, .long pdx, .long pdy]))])) (tyC := [(cI, .int)]) (isC := [0, 1, 2]) (isR := [3]) (isN := [1, 2, 3, 0]) (its := [0]) ⟨hx, hb, hml, hown, hts⟩ (tX4_isBlocked l dC dI cI ob ahl nh abl nb asr pb atr nt tb mt fsr tx0 ty0 tx1 ty1 tdx tdy x y (x + w) (y + h) (ir_m hok.1) (ir_m hok.2.1) (ir_s hok.1 hok.2.2.1 hok.2.2.2.1) (ir_s hok.2.1 hok.2.2.2.2.1 hok.2.2.2.2.2)) (cwV 4 hts gX4_player_X4_isBlocked rfl rfl rfl (by decide +kernel) ⟨Nat.le_of_ble_eq_true rfl, Nat.le_of_ble_eq_true rfl⟩) hP hD hA hS hK rfl (by decide) rfl (by decide) (by decide) (fun _ => rfl) (by decide) rfl rfl rfl rfl rfl hl.1 (Nat.le_of_ble_eq_true rfl) dX4_player_58 ⟨Nat.le_of_ble_eq_true rfl, Nat.le_of_ble_eq_true rfl⟩ (fun uu H locs hP hD hS => ?_)
          obtain ⟨g1, g2, g3, g4, g5, g6⟩ := uu
          have hP : va_P (dC, dI) vwCl [(ob, .inr (4, [.ref ahl, .int (nI nh), .ref abl, .int (nI nb), .ref asr, .ref pb, .ref atr, .int (nI nt), .ref tb, .ref mt])), (asr, .inl (cI, 24, .inl fsr)), (tb, .inr (0, [.long g1, .long g2, .long g3, .long g4, .long g5, .long g6])), (pb, .inr (0, [.long px0, .long py0, .long px1, .long py1, .long pdx, .long pdy]))] H := hP
          have hD : va_D A [(ob, .inr (4, [.ref ahl, .int (nI nh), .ref abl, .int (nI nb), .ref asr, .ref pb, .ref atr, .int (nI nt), .ref tb, .ref mt])), (asr, .inl (cI, 24, .inl fsr)), (tb, .inr (0, [.long g1, .long g2, .long g3, .long g4, .long g5, .long g6])), (pb, .inr (0, [.long px0, .long py0, .long px1, .long py1, .long pdx, .long pdy]))] := hD
          refine lv_if_eq (tgt := 66) hx hb dX4_player_61 (by decide) (fun c61 => ?_) (fun c61 => ?_)
          · replace c61 := bI_0 c61; replace c61 := pB_not c61
            refine lv_aload_n hx hb dX4_player_66 rfl (lv_at hl 0 rfl) ?_
            refine va_get (D := (dC, dI)) (ci := 4) (v := .ref pb) (C := RX4) (T := TX4) (N := 10) hx hb hts hi4 hown hK hP 0 rfl rfl 5 (by decide) f26 (fun _ h9 => h9) rfl dX4_player_67 ?_
            refine lv_lload_n hx hb dX4_player_70 rfl (lv_at hl 1 rfl) ?_
            refine lv_lload_n hx hb dX4_player_71 rfl (lv_at hl 2 rfl) ?_
            refine lv_lload_n hx hb dX4_player_72 rfl (lv_at hl 1 rfl) ?_
            refine lv_lload hx hb dX4_player_73 (lv_at hl 3 rfl) ?_
            refine lv_ladd hx hb dX4_player_75 ?_
            refine lv_lload_n hx hb dX4_player_76 rfl (lv_at hl 2 rfl) ?_
            refine lv_lload hx hb dX4_player_77 (lv_at hl 4 rfl) ?_
            refine lv_ladd hx hb dX4_player_79 ?_
            refine kmVv (q0 := 0) (ci := 0) (As := [.long x, .long y, .long (x + w), .long (y + h)]) (rest := []) (WC := [(pb, .inr (0, [.long px0, .long py0, .long px1, .long py1, .long pdx, .long pdy]))]) (W2 := [(pb, .inr (0, [.long x, .long y, .long (x + w), .long (y + h), .long 0, .long 0]))]) (WR := [(ob, .inr (4, [.ref ahl, .int (nI nh), .ref abl, .int (nI nb), .ref asr, .ref pb, .ref atr, .int (nI nt), .ref tb, .ref mt])), (asr, .inl (cI, 24, .inl fsr)), (tb, .inr (0, [.long g1, .long g2, .long g3, .long g4, .long g5, .long g6]))]) (WN := [(ob, .inr (4, [.ref ahl, .int (nI nh), .ref abl, .int (nI nb), .ref asr, .ref pb, .ref atr, .int (nI nt), .ref tb, .ref mt])), (asr, .inl (cI, 24, .inl fsr)), (tb, .inr (0, [.long g1, .long g2, .long g3, .long g4, .long g5, .long g6])), (pb, .inr (0, [.long x, .long y, .long (x + w), .long (y + h), .long 0, .long 0]))]) (tyC := []) (isC := [3]) (isR := [0, 1, 2]) (isN := [0, 1, 2, 3]) (its := []) ⟨hx, hb, hml, hown, hts⟩ (tX0_put l dC dI pb px0 py0 px1 py1 pdx pdy x y (x + w) (y + h)) (cwV 4 hts gX4_player_X0_put rfl rfl rfl (by decide +kernel) ⟨Nat.le_of_ble_eq_true rfl, Nat.le_of_ble_eq_true rfl⟩) hP hD hA hS hK rfl (by decide) rfl (by decide) (by decide) rfl (by decide) rfl rfl rfl rfl rfl hl.1 (Nat.le_of_ble_eq_true rfl) dX4_player_80 ⟨Nat.le_of_ble_eq_true rfl, Nat.le_of_ble_eq_true rfl⟩ (fun H locs hP hD hS => ?_)
            refine lv_iconst (v := (nI 1)) hx hb dX4_player_83 (by decide) ?_
            exact kXz (u := (g1, g2, g3, g4, g5, g6)) hx hb hr hlocks hP hK hD hS dX4_player_84 rfl
          · replace c61 := bI_n c61; replace c61 := pB_iff.mp c61
            exact absurd c61 hbl
        · rw [lg_cmp_le, Int64.not_le] at c34
          exact absurd hok.2.2.2.2.2 (Int64.not_le.mpr c34)

def fillTo (f : Nat → Int32) (v : Int32) (k : Nat) : Nat → Int32 := fun j => if j < k then v else f j
theorem fillTo_0 (f : Nat → Int32) (v : Int32) : fillTo f v 0 = f := by funext j; simp [fillTo]
theorem fillTo_s (f : Nat → Int32) (v : Int32) (k : Nat) : upd (fillTo f v k) k v = fillTo f v (k + 1) := by
  funext j; unfold upd fillTo; split
  · next h => rw [if_pos (by omega)]
  · next h => by_cases hj : j < k
              · rw [if_pos hj, if_pos (by omega)]
              · rw [if_neg hj, if_neg (by omega)]
set_option maxHeartbeats 4000000 in
set_option maxRecDepth 100000 in
theorem tJ7_fill_53178 (l : Launch) (dC : Nat → ClassId) (dI : Nat → Nat → Nat) (cI : ClassId) (asr : Nat) (fsr : Nat → Int32) (v : Int32)  : MMv l yJ7_fill_53178 wsJ7_fill_53178 { frames := 0, cells := 0, slots := 0, locals := 0 } [.ref asr, .int v] (dC, dI) [(asr, .inl (cI, 24, .inl fsr))] [(asr, .inl (cI, 24, .inl (fillTo fsr v 24)))] [(cI, .int)] := by
  intro sz
  refine kOfF (cc := cJ7_fill_53178) (maxL := 4) (ret := none) (by decide +kernel) rfl (Nat.le_of_ble_eq_true rfl) ?_
  intro p e s m below meth c hx hb hr hml hts hown hlocks hB ls hl
  obtain ⟨hsz, hP, hK, hD0⟩ := hB
  subst hsz
  have hD := hD0.self (sz := s.heap.size)
  generalize hAe : va_A [(asr, .inl (cI, 24, .inl fsr))] s.heap.size = A at hD ⊢
  have hA : ∀ q : Nat, s.heap.size ≤ q → A q := fun q h => by rw [← hAe]; exact Or.inr h
  have hS : va_S A s.heap s.heap [] := va_S.rf
  have hl : lv_has ls 4 [(0, .ref asr), (1, .int v)] := hl
  refine lv_iconst (v := (nI 0)) hx hb dJ7_fill_53178_0 (by decide) ?_
  refine lv_istore_n (lv' := [(2, .int (nI 0)), (0, .ref asr), (1, .int v)]) hx hb dJ7_fill_53178_1 rfl hl (by decide) rfl (fun ls hl => ?_)
  refine lv_aload_n hx hb dJ7_fill_53178_2 rfl (lv_at hl 1 rfl) ?_
  refine va_alen (v := (nI 24)) hx hb hK hP 0 0 rfl rfl rfl dJ7_fill_53178_3 ?_
  refine lv_istore_n (lv' := [(3, .int (nI 24)), (2, .int (nI 0)), (0, .ref asr), (1, .int v)]) hx hb dJ7_fill_53178_4 rfl hl (by decide) rfl (fun ls hl => ?_)
  refine kLoop (σ := Nat) (fun xz H locs ls => match xz with | k => (va_P (dC, dI) vwCl [(asr, .inl (cI, 24, .inl (fillTo fsr v k)))] H) ∧ (va_D A [(asr, .inl (cI, 24, .inl (fillTo fsr v k)))]) ∧ (va_S A s.heap H locs) ∧ (lv_has ls 4 [(0, .ref asr), (1, .int v), (2, .int (nI k)), (3, .int (nI 24))]) ∧ (k ≤ 24)) (fun xz => match xz with | k => 24 - k) ?_ (0) ?_
  · rintro k H locs ls hI ih5
    obtain ⟨hP, hD, hS, hl, hi5_⟩ := hI
    refine lv_iload_n hx hb dJ7_fill_53178_5 rfl (lv_at hl 2 rfl) ?_
    refine lv_iload_n hx hb dJ7_fill_53178_6 rfl (lv_at hl 3 rfl) ?_
    refine lv_icmp_ge (tgt := 20) hx hb dJ7_fill_53178_7 (by decide) (fun c7 => ?_) (fun c7 => ?_)
    · rw [nI_leI (by omega) (by omega)] at c7
      have hk9 : k = 24 := by omega
      rw [hk9] at hP hD
      exact kEv hx hb hr hlocks hP hK hD hS dJ7_fill_53178_20
    · rw [nI_leI (by omega) (by omega), Nat.not_le] at c7
      refine lv_aload_n hx hb dJ7_fill_53178_10 rfl (lv_at hl 0 rfl) ?_
      refine lv_iload_n hx hb dJ7_fill_53178_11 rfl (lv_at hl 2 rfl) ?_
      refine lv_iload_n hx hb dJ7_fill_53178_12 rfl (lv_at hl 1 rfl) ?_
      refine va_iast hx hb hK hP hD hS 0 0 rfl rfl (vp_in_nI (show k < 24 by omega) (by omega)) dJ7_fill_53178_13 (fun H locs hP hD hS => ?_)
      rw [show (nI k).toNatClampNeg = k from nI_clamp (show k < 2 ^ 31 by omega)] at hP hD
      have hP : va_P (dC, dI) vwCl [(asr, .inl (cI, 24, .inl (upd (fillTo fsr v k) k v)))] H := hP
      have hD : va_D A [(asr, .inl (cI, 24, .inl (upd (fillTo fsr v k) k v)))] := hD
      refine lv_iinc (v := (nI (k + 1))) (lv' := [(2, .int (nI (k + 1))), (0, .ref asr), (1, .int v), (3, .int (nI 24))]) hx hb dJ7_fill_53178_14 hl (k := 2) rfl (show (nI k) + Int32.ofInt 1 = nI (k + 1) from nI_add k 1) (by decide) rfl (fun ls hl => ?_)
      refine lv_goto (tgt := 5) hx hb dJ7_fill_53178_17 (by decide) ?_
      rw [fillTo_s] at hP hD
      exact ih5 (k + 1) _ _ _ ⟨hP, hD, hS, lv_sub hl [1, 2, 0, 3] rfl, (by omega)⟩ (by simp only []; omega)
  · rw [← fillTo_0 fsr v] at hP hD
    exact ⟨hP, hD, hS, lv_sub hl [2, 3, 1, 0] rfl, Nat.zero_le _⟩

set_option maxHeartbeats 4000000 in
set_option maxRecDepth 100000 in
theorem tX4_startAnew (l : Launch) (dC : Nat → ClassId) (dI : Nat → Nat → Nat) (cI : ClassId) (ob ahl nh abl nb asr pb atr nt tb mt : Nat) (fsr : Nat → Int32) (px0 py0 px1 py1 pdx pdy : Int64)  : MMv l yX4_startAnew wsX4_startAnew { frames := 2, cells := 0, slots := 0, locals := 52 } [.ref ob] (dC, dI) [(ob, .inr (4, [.ref ahl, .int (nI nh), .ref abl, .int (nI nb), .ref asr, .ref pb, .ref atr, .int (nI nt), .ref tb, .ref mt])), (asr, .inl (cI, 24, .inl fsr)), (pb, .inr (0, [.long px0, .long py0, .long px1, .long py1, .long pdx, .long pdy]))] [(ob, .inr (4, [.ref ahl, .int (nI 0), .ref abl, .int (nI 0), .ref asr, .ref pb, .ref atr, .int (nI 0), .ref tb, .ref mt])), (asr, .inl (cI, 24, .inl (fillTo fsr (nI 0) 24))), (pb, .inr (0, [.long (-100), .long (-100), .long (-92), .long (-92), .long 0, .long 0]))] [(cI, .int)] := by
  intro sz
  refine kOf (cc := cX4_startAnew) (maxL := 3) (ret := none) (by decide) rfl (Nat.le_of_ble_eq_true rfl) ?_
  intro p e s m below meth c hx hb hr hml hts hown hlocks hB ls hl
  obtain ⟨hsz, hP, hK, hD0⟩ := hB
  subst hsz
  have hD := hD0.self (sz := s.heap.size)
  generalize hAe : va_A [(ob, .inr (4, [.ref ahl, .int (nI nh), .ref abl, .int (nI nb), .ref asr, .ref pb, .ref atr, .int (nI nt), .ref tb, .ref mt])), (asr, .inl (cI, 24, .inl fsr)), (pb, .inr (0, [.long px0, .long py0, .long px1, .long py1, .long pdx, .long pdy]))] s.heap.size = A at hD ⊢
  have hA : ∀ q : Nat, s.heap.size ≤ q → A q := fun q h => by rw [← hAe]; exact Or.inr h
  have hS : va_S A s.heap s.heap [] := va_S.rf
  have hl : lv_has ls 3 [(0, .ref ob)] := hl
  have hi4 : ∀ w ∈ u_ws RX4 TX4 10, w ∈ wsX4_startAnew := by decide +kernel
  have f21 := hts (.fieldLink RX4 21 "SweptBoxes" "solidRows" "[I") (by decide +kernel)
  have f26 := hts (.fieldLink RX4 26 "SweptBoxes" "playerBox" "LSweptBoxes$Block;") (by decide +kernel)
  have f51 := hts (.fieldLink RX4 51 "SweptBoxes" "hullCount" "I") (by decide +kernel)
  have f96 := hts (.fieldLink RX4 96 "SweptBoxes" "blockCount" "I") (by decide +kernel)
  have f166 := hts (.fieldLink RX4 166 "SweptBoxes" "traceCount" "I") (by decide +kernel)
  refine lv_aload_n hx hb dX4_startAnew_0 rfl (lv_at hl 0 rfl) ?_
  refine lv_iconst (v := (nI 0)) hx hb dX4_startAnew_1 (by decide) ?_
  refine va_put (D := (dC, dI)) (ci := 4) (v := .int (nI 0)) (ty := .int) (C := RX4) (T := TX4) (N := 10) hx hb hts hi4 tyX4 tyX4_ok nmX4 hown hK hP hD hS 0 rfl rfl 1 (by decide) f51 (fun _ h9 => h9) rfl (by decide +kernel) rfl rfl (Nat.le_of_ble_eq_true rfl) dX4_startAnew_2 (fun H locs hP hD hS => ?_)
  have hP : va_P (dC, dI) vwCl [(ob, .inr (4, [.ref ahl, .int (nI 0), .ref abl, .int (nI nb), .ref asr, .ref pb, .ref atr, .int (nI nt), .ref tb, .ref mt])), (asr, .inl (cI, 24, .inl fsr)), (pb, .inr (0, [.long px0, .long py0, .long px1, .long py1, .long pdx, .long pdy]))] H := hP
  have hD : va_D A [(ob, .inr (4, [.ref ahl, .int (nI 0), .ref abl, .int (nI nb), .ref asr, .ref pb, .ref atr, .int (nI nt), .ref tb, .ref mt])), (asr, .inl (cI, 24, .inl fsr)), (pb, .inr (0, [.long px0, .long py0, .long px1, .long py1, .long pdx, .long pdy]))] := hD
  refine lv_aload_n hx hb dX4_startAnew_5 rfl (lv_at hl 0 rfl) ?_
  refine lv_iconst (v := (nI 0)) hx hb dX4_startAnew_6 (by decide) ?_
  refine va_put (D := (dC, dI)) (ci := 4) (v := .int (nI 0)) (ty := .int) (C := RX4) (T := TX4) (N := 10) hx hb hts hi4 tyX4 tyX4_ok nmX4 hown hK hP hD hS 0 rfl rfl 3 (by decide) f96 (fun _ h9 => h9) rfl (by decide +kernel) rfl rfl (Nat.le_of_ble_eq_true rfl) dX4_startAnew_7 (fun H locs hP hD hS => ?_)
  have hP : va_P (dC, dI) vwCl [(ob, .inr (4, [.ref ahl, .int (nI 0), .ref abl, .int (nI 0), .ref asr, .ref pb, .ref atr, .int (nI nt), .ref tb, .ref mt])), (asr, .inl (cI, 24, .inl fsr)), (pb, .inr (0, [.long px0, .long py0, .long px1, .long py1, .long pdx, .long pdy]))] H := hP
  have hD : va_D A [(ob, .inr (4, [.ref ahl, .int (nI 0), .ref abl, .int (nI 0), .ref asr, .ref pb, .ref atr, .int (nI nt), .ref tb, .ref mt])), (asr, .inl (cI, 24, .inl fsr)), (pb, .inr (0, [.long px0, .long py0, .long px1, .long py1, .long pdx, .long pdy]))] := hD
  refine lv_aload_n hx hb dX4_startAnew_10 rfl (lv_at hl 0 rfl) ?_
  refine lv_iconst (v := (nI 0)) hx hb dX4_startAnew_11 (by decide) ?_
  refine va_put (D := (dC, dI)) (ci := 4) (v := .int (nI 0)) (ty := .int) (C := RX4) (T := TX4) (N := 10) hx hb hts hi4 tyX4 tyX4_ok nmX4 hown hK hP hD hS 0 rfl rfl 7 (by decide) f166 (fun _ h9 => h9) rfl (by decide +kernel) rfl rfl (Nat.le_of_ble_eq_true rfl) dX4_startAnew_12 (fun H locs hP hD hS => ?_)
  have hP : va_P (dC, dI) vwCl [(ob, .inr (4, [.ref ahl, .int (nI 0), .ref abl, .int (nI 0), .ref asr, .ref pb, .ref atr, .int (nI 0), .ref tb, .ref mt])), (asr, .inl (cI, 24, .inl fsr)), (pb, .inr (0, [.long px0, .long py0, .long px1, .long py1, .long pdx, .long pdy]))] H := hP
  have hD : va_D A [(ob, .inr (4, [.ref ahl, .int (nI 0), .ref abl, .int (nI 0), .ref asr, .ref pb, .ref atr, .int (nI 0), .ref tb, .ref mt])), (asr, .inl (cI, 24, .inl fsr)), (pb, .inr (0, [.long px0, .long py0, .long px1, .long py1, .long pdx, .long pdy]))] := hD
  refine lv_aload_n hx hb dX4_startAnew_15 rfl (lv_at hl 0 rfl) ?_
  refine va_get (D := (dC, dI)) (ci := 4) (v := .ref asr) (C := RX4) (T := TX4) (N := 10) hx hb hts hi4 hown hK hP 0 rfl rfl 4 (by decide) f21 (fun _ h9 => h9) rfl dX4_startAnew_16 ?_
  refine lv_iconst (v := (nI 0)) hx hb dX4_startAnew_19 (by decide) ?_
  refine kmSv (As := [.ref asr, .int (nI 0)]) (rest := []) (WC := [(asr, .inl (cI, 24, .inl fsr))]) (W2 := [(asr, .inl (cI, 24, .inl (fillTo fsr (nI 0) 24)))]) (WR := [(ob, .inr (4, [.ref ahl, .int (nI 0), .ref abl, .int (nI 0), .ref asr, .ref pb, .ref atr, .int (nI 0), .ref tb, .ref mt])), (pb, .inr (0, [.long px0, .long py0, .long px1, .long py1, .long pdx, .long pdy]))]) (WN := [(ob, .inr (4, [.ref ahl, .int (nI 0), .ref abl, .int (nI 0), .ref asr, .ref pb, .ref atr, .int (nI 0), .ref tb, .ref mt])), (asr, .inl (cI, 24, .inl (fillTo fsr (nI 0) 24))), (pb, .inr (0, [.long px0, .long py0, .long px1, .long py1, .long pdx, .long pdy]))]) (tyC := [(cI, .int)]) (isC := [1]) (isR := [0, 2]) (isN := [0, 2, 1]) (its := [0]) ⟨hx, hb, hml, hown, hts⟩ (tJ7_fill_53178 l dC dI cI asr fsr (nI 0)) (va_cwS 2 hts gX4_startAnew_J7_fill_53178 rfl rfl rfl (by decide +kernel) ⟨Nat.le_of_ble_eq_true rfl, Nat.le_of_ble_eq_true rfl⟩) hP hD hA hS hK rfl (by decide) rfl (by decide) (by decide) rfl (by decide) rfl rfl rfl hl.1 (Nat.le_of_ble_eq_true rfl) dX4_startAnew_20 ⟨Nat.le_of_ble_eq_true rfl, Nat.le_of_ble_eq_true rfl⟩ (fun H locs hP hD hS => ?_)
  refine lv_ldc2 hx hb hown (hts (.constantLong RX4 204 (-92)) (by decide +kernel)) dX4_startAnew_23 ?_
  refine lv_lstore_n (lv' := [(1, .long (-92)), (0, .ref ob)]) hx hb dX4_startAnew_26 rfl hl (by decide) rfl (fun ls hl => ?_)
  refine lv_aload_n hx hb dX4_startAnew_27 rfl (lv_at hl 1 rfl) ?_
  refine va_get (D := (dC, dI)) (ci := 4) (v := .ref pb) (C := RX4) (T := TX4) (N := 10) hx hb hts hi4 hown hK hP 0 rfl rfl 5 (by decide) f26 (fun _ h9 => h9) rfl dX4_startAnew_28 ?_
  refine lv_ldc2 hx hb hown (hts (.constantLong RX4 206 (-100)) (by decide +kernel)) dX4_startAnew_31 ?_
  refine lv_ldc2 hx hb hown (hts (.constantLong RX4 206 (-100)) (by decide +kernel)) dX4_startAnew_34 ?_
  refine lv_lload_n hx hb dX4_startAnew_37 rfl (lv_at hl 0 rfl) ?_
  refine lv_lload_n hx hb dX4_startAnew_38 rfl (lv_at hl 0 rfl) ?_
  refine kmVv (q0 := 0) (ci := 0) (As := [.long (-100), .long (-100), .long (-92), .long (-92)]) (rest := []) (WC := [(pb, .inr (0, [.long px0, .long py0, .long px1, .long py1, .long pdx, .long pdy]))]) (W2 := [(pb, .inr (0, [.long (-100), .long (-100), .long (-92), .long (-92), .long 0, .long 0]))]) (WR := [(ob, .inr (4, [.ref ahl, .int (nI 0), .ref abl, .int (nI 0), .ref asr, .ref pb, .ref atr, .int (nI 0), .ref tb, .ref mt])), (asr, .inl (cI, 24, .inl (fillTo fsr (nI 0) 24)))]) (WN := [(ob, .inr (4, [.ref ahl, .int (nI 0), .ref abl, .int (nI 0), .ref asr, .ref pb, .ref atr, .int (nI 0), .ref tb, .ref mt])), (asr, .inl (cI, 24, .inl (fillTo fsr (nI 0) 24))), (pb, .inr (0, [.long (-100), .long (-100), .long (-92), .long (-92), .long 0, .long 0]))]) (tyC := []) (isC := [2]) (isR := [0, 1]) (isN := [0, 1, 2]) (its := []) ⟨hx, hb, hml, hown, hts⟩ (tX0_put l dC dI pb px0 py0 px1 py1 pdx pdy (-100) (-100) (-92) (-92)) (cwV 4 hts gX4_startAnew_X0_put rfl rfl rfl (by decide +kernel) ⟨Nat.le_of_ble_eq_true rfl, Nat.le_of_ble_eq_true rfl⟩) hP hD hA hS hK rfl (by decide) rfl (by decide) (by decide) rfl (by decide) rfl rfl rfl rfl rfl hl.1 (Nat.le_of_ble_eq_true rfl) dX4_startAnew_39 ⟨Nat.le_of_ble_eq_true rfl, Nat.le_of_ble_eq_true rfl⟩ (fun H locs hP hD hS => ?_)
  exact kEv hx hb hr hlocks hP hK hD hS dX4_startAnew_42

set_option maxHeartbeats 4000000 in
set_option maxRecDepth 100000 in
theorem tX4_clear (l : Launch) (dC : Nat → ClassId) (dI : Nat → Nat → Nat) (cI : ClassId) (ob ahl nh abl nb asr pb atr nt tb mt : Nat) (fsr : Nat → Int32) (px0 py0 px1 py1 pdx pdy : Int64)  : MMv l yX4_clear wsX4_clear { frames := 3, cells := 0, slots := 0, locals := 74 } [.ref ob] (dC, dI) [(ob, .inr (4, [.ref ahl, .int (nI nh), .ref abl, .int (nI nb), .ref asr, .ref pb, .ref atr, .int (nI nt), .ref tb, .ref mt])), (asr, .inl (cI, 24, .inl fsr)), (pb, .inr (0, [.long px0, .long py0, .long px1, .long py1, .long pdx, .long pdy]))] [(ob, .inr (4, [.ref ahl, .int (nI 0), .ref abl, .int (nI 0), .ref asr, .ref pb, .ref atr, .int (nI 0), .ref tb, .ref mt])), (asr, .inl (cI, 24, .inl (fillTo fsr (nI 0) 24))), (pb, .inr (0, [.long (-100), .long (-100), .long (-92), .long (-92), .long 0, .long 0]))] [(cI, .int)] := by
  intro sz
  refine kOf (cc := cX4_clear) (maxL := 1) (ret := none) (by decide) rfl (Nat.le_of_ble_eq_true rfl) ?_
  intro p e s m below meth c hx hb hr hml hts hown hlocks hB ls hl
  obtain ⟨hsz, hP, hK, hD0⟩ := hB
  subst hsz
  have hD := hD0.self (sz := s.heap.size)
  generalize hAe : va_A [(ob, .inr (4, [.ref ahl, .int (nI nh), .ref abl, .int (nI nb), .ref asr, .ref pb, .ref atr, .int (nI nt), .ref tb, .ref mt])), (asr, .inl (cI, 24, .inl fsr)), (pb, .inr (0, [.long px0, .long py0, .long px1, .long py1, .long pdx, .long pdy]))] s.heap.size = A at hD ⊢
  have hA : ∀ q : Nat, s.heap.size ≤ q → A q := fun q h => by rw [← hAe]; exact Or.inr h
  have hS : va_S A s.heap s.heap [] := va_S.rf
  have hl : lv_has ls 1 [(0, .ref ob)] := hl
  refine lv_aload_n hx hb dX4_clear_0 rfl (lv_at hl 0 rfl) ?_
  refine kmVv (q0 := 0) (ci := 4) (As := []) (rest := []) (WC := [(ob, .inr (4, [.ref ahl, .int (nI nh), .ref abl, .int (nI nb), .ref asr, .ref pb, .ref atr, .int (nI nt), .ref tb, .ref mt])), (asr, .inl (cI, 24, .inl fsr)), (pb, .inr (0, [.long px0, .long py0, .long px1, .long py1, .long pdx, .long pdy]))]) (W2 := [(ob, .inr (4, [.ref ahl, .int (nI 0), .ref abl, .int (nI 0), .ref asr, .ref pb, .ref atr, .int (nI 0), .ref tb, .ref mt])), (asr, .inl (cI, 24, .inl (fillTo fsr (nI 0) 24))), (pb, .inr (0, [.long (-100), .long (-100), .long (-92), .long (-92), .long 0, .long 0]))]) (WR := []) (WN := [(ob, .inr (4, [.ref ahl, .int (nI 0), .ref abl, .int (nI 0), .ref asr, .ref pb, .ref atr, .int (nI 0), .ref tb, .ref mt])), (asr, .inl (cI, 24, .inl (fillTo fsr (nI 0) 24))), (pb, .inr (0, [.long (-100), .long (-100), .long (-92), .long (-92), .long 0, .long 0]))]) (tyC := [(cI, .int)]) (isC := [0, 1, 2]) (isR := []) (isN := [0, 1, 2]) (its := [0]) ⟨hx, hb, hml, hown, hts⟩ (tX4_startAnew l dC dI cI ob ahl nh abl nb asr pb atr nt tb mt fsr px0 py0 px1 py1 pdx pdy) (cwV 0 hts gX4_clear_X4_startAnew rfl rfl rfl (by decide +kernel) ⟨Nat.le_of_ble_eq_true rfl, Nat.le_of_ble_eq_true rfl⟩) hP hD hA hS hK rfl (by decide) rfl (by decide) (by decide) rfl (by decide) rfl rfl rfl rfl rfl hl.1 (Nat.le_of_ble_eq_true rfl) dX4_clear_1 ⟨Nat.le_of_ble_eq_true rfl, Nat.le_of_ble_eq_true rfl⟩ (fun H locs hP hD hS => ?_)
  exact kEv hx hb hr hlocks hP hK hD hS dX4_clear_4
