set_option maxHeartbeats 4000000 in
set_option maxRecDepth 100000 in
/-- head(a, b) -/
theorem tX0_head (l : Launch) (dC : Nat → ClassId) (dI : Nat → Nat → Nat) (h0 : Nat) (x0 y0 x1 y1 dx dy : Int64) (a b : Int64)  : MMv l yX0_head wsX0_head { frames := 0, cells := 0, slots := 0, locals := 0 } [.ref h0, .long a, .long b] (dC, dI) [(h0, .inr (0, [.long x0, .long y0, .long x1, .long y1, .long dx, .long dy]))] [(h0, .inr (0, [.long x0, .long y0, .long x1, .long y1, .long a, .long b]))] [] := by
  intro sz
  refine kOf (cc := cX0_head) (maxL := 5) (ret := none) (by decide) rfl (Nat.le_of_ble_eq_true rfl) ?_
  intro p e s m below meth c hx hb hr hml hts hown hlocks hB ls hl
  obtain ⟨hsz, hP, hK, hD0⟩ := hB
  subst hsz
  have hD := hD0.self (sz := s.heap.size)
  generalize hAe : va_A [(h0, .inr (0, [.long x0, .long y0, .long x1, .long y1, .long dx, .long dy]))] s.heap.size = A at hD ⊢
  have hA : ∀ q : Nat, s.heap.size ≤ q → A q := fun q h => by rw [← hAe]; exact Or.inr h
  have hS : va_S A s.heap s.heap [] := va_S.rf
  have hl : lv_has ls 5 [(0, .ref h0), (1, .long a), (3, .long b)] := hl
  have hi0 : ∀ w ∈ u_ws RX0 TX0 6, w ∈ wsX0_head := by decide +kernel
  have f34 := hts (.fieldLink RX0 34 "SweptBoxes$Block" "dx" "J") (by decide +kernel)
  have f37 := hts (.fieldLink RX0 37 "SweptBoxes$Block" "dy" "J") (by decide +kernel)
  refine lv_aload_n hx hb dX0_head_0 rfl (lv_at hl 0 rfl) ?_
  refine lv_lload_n hx hb dX0_head_1 rfl (lv_at hl 1 rfl) ?_
  refine va_put (D := (dC, dI)) (ci := 0) (v := .long a) (ty := .long) (C := RX0) (T := TX0) (N := 6) hx hb hts hi0 tyX0 tyX0_ok nmX0 hown hK hP hD hS 0 rfl rfl 4 (by decide) f34 (fun _ h9 => h9) rfl (by decide +kernel) rfl rfl (Nat.le_of_ble_eq_true rfl) dX0_head_2 (fun H locs hP hD hS => ?_)
  have hP : va_P (dC, dI) vwCl [(h0, .inr (0, [.long x0, .long y0, .long x1, .long y1, .long a, .long dy]))] H := hP
  have hD : va_D A [(h0, .inr (0, [.long x0, .long y0, .long x1, .long y1, .long a, .long dy]))] := hD
  refine lv_aload_n hx hb dX0_head_5 rfl (lv_at hl 0 rfl) ?_
  refine lv_lload_n hx hb dX0_head_6 rfl (lv_at hl 2 rfl) ?_
  refine va_put (D := (dC, dI)) (ci := 0) (v := .long b) (ty := .long) (C := RX0) (T := TX0) (N := 6) hx hb hts hi0 tyX0 tyX0_ok nmX0 hown hK hP hD hS 0 rfl rfl 5 (by decide) f37 (fun _ h9 => h9) rfl (by decide +kernel) rfl rfl (Nat.le_of_ble_eq_true rfl) dX0_head_7 (fun H locs hP hD hS => ?_)
  have hP : va_P (dC, dI) vwCl [(h0, .inr (0, [.long x0, .long y0, .long x1, .long y1, .long a, .long b]))] H := hP
  have hD : va_D A [(h0, .inr (0, [.long x0, .long y0, .long x1, .long y1, .long a, .long b]))] := hD
  exact kEv hx hb hr hlocks hP hK hD hS dX0_head_10

set_option maxHeartbeats 4000000 in
set_option maxRecDepth 100000 in
/-- put(a, b, cc, d) -/
theorem tX0_put (l : Launch) (dC : Nat → ClassId) (dI : Nat → Nat → Nat) (h0 : Nat) (x0 y0 x1 y1 dx dy : Int64) (a b cc d : Int64)  : MMv l yX0_put wsX0_put { frames := 1, cells := 0, slots := 0, locals := 24 } [.ref h0, .long a, .long b, .long cc, .long d] (dC, dI) [(h0, .inr (0, [.long x0, .long y0, .long x1, .long y1, .long dx, .long dy]))] [(h0, .inr (0, [.long a, .long b, .long cc, .long d, .long 0, .long 0]))] [] := by
  intro sz
  refine kOf (cc := cX0_put) (maxL := 9) (ret := none) (by decide) rfl (Nat.le_of_ble_eq_true rfl) ?_
  intro p e s m below meth c hx hb hr hml hts hown hlocks hB ls hl
  obtain ⟨hsz, hP, hK, hD0⟩ := hB
  subst hsz
  have hD := hD0.self (sz := s.heap.size)
  generalize hAe : va_A [(h0, .inr (0, [.long x0, .long y0, .long x1, .long y1, .long dx, .long dy]))] s.heap.size = A at hD ⊢
  have hA : ∀ q : Nat, s.heap.size ≤ q → A q := fun q h => by rw [← hAe]; exact Or.inr h
  have hS : va_S A s.heap s.heap [] := va_S.rf
  have hl : lv_has ls 9 [(0, .ref h0), (1, .long a), (3, .long b), (5, .long cc), (7, .long d)] := hl
  have hi0 : ∀ w ∈ u_ws RX0 TX0 6, w ∈ wsX0_put := by decide +kernel
  have f9 := hts (.fieldLink RX0 9 "SweptBoxes$Block" "x0" "J") (by decide +kernel)
  have f15 := hts (.fieldLink RX0 15 "SweptBoxes$Block" "y0" "J") (by decide +kernel)
  have f18 := hts (.fieldLink RX0 18 "SweptBoxes$Block" "x1" "J") (by decide +kernel)
  have f21 := hts (.fieldLink RX0 21 "SweptBoxes$Block" "y1" "J") (by decide +kernel)
  refine lv_aload_n hx hb dX0_put_0 rfl (lv_at hl 0 rfl) ?_
  refine lv_lload_n hx hb dX0_put_1 rfl (lv_at hl 1 rfl) ?_
  refine va_put (D := (dC, dI)) (ci := 0) (v := .long a) (ty := .long) (C := RX0) (T := TX0) (N := 6) hx hb hts hi0 tyX0 tyX0_ok nmX0 hown hK hP hD hS 0 rfl rfl 0 (by decide) f9 (fun _ h9 => h9) rfl (by decide +kernel) rfl rfl (Nat.le_of_ble_eq_true rfl) dX0_put_2 (fun H locs hP hD hS => ?_)
  have hP : va_P (dC, dI) vwCl [(h0, .inr (0, [.long a, .long y0, .long x1, .long y1, .long dx, .long dy]))] H := hP
  have hD : va_D A [(h0, .inr (0, [.long a, .long y0, .long x1, .long y1, .long dx, .long dy]))] := hD
  refine lv_aload_n hx hb dX0_put_5 rfl (lv_at hl 0 rfl) ?_
  refine lv_lload_n hx hb dX0_put_6 rfl (lv_at hl 2 rfl) ?_
  refine va_put (D := (dC, dI)) (ci := 0) (v := .long b) (ty := .long) (C := RX0) (T := TX0) (N := 6) hx hb hts hi0 tyX0 tyX0_ok nmX0 hown hK hP hD hS 0 rfl rfl 1 (by decide) f15 (fun _ h9 => h9) rfl (by decide +kernel) rfl rfl (Nat.le_of_ble_eq_true rfl) dX0_put_7 (fun H locs hP hD hS => ?_)
  have hP : va_P (dC, dI) vwCl [(h0, .inr (0, [.long a, .long b, .long x1, .long y1, .long dx, .long dy]))] H := hP
  have hD : va_D A [(h0, .inr (0, [.long a, .long b, .long x1, .long y1, .long dx, .long dy]))] := hD
  refine lv_aload_n hx hb dX0_put_10 rfl (lv_at hl 0 rfl) ?_
  refine lv_lload hx hb dX0_put_11 (lv_at hl 3 rfl) ?_
  refine va_put (D := (dC, dI)) (ci := 0) (v := .long cc) (ty := .long) (C := RX0) (T := TX0) (N := 6) hx hb hts hi0 tyX0 tyX0_ok nmX0 hown hK hP hD hS 0 rfl rfl 2 (by decide) f18 (fun _ h9 => h9) rfl (by decide +kernel) rfl rfl (Nat.le_of_ble_eq_true rfl) dX0_put_13 (fun H locs hP hD hS => ?_)
  have hP : va_P (dC, dI) vwCl [(h0, .inr (0, [.long a, .long b, .long cc, .long y1, .long dx, .long dy]))] H := hP
  have hD : va_D A [(h0, .inr (0, [.long a, .long b, .long cc, .long y1, .long dx, .long dy]))] := hD
  refine lv_aload_n hx hb dX0_put_16 rfl (lv_at hl 0 rfl) ?_
  refine lv_lload hx hb dX0_put_17 (lv_at hl 4 rfl) ?_
  refine va_put (D := (dC, dI)) (ci := 0) (v := .long d) (ty := .long) (C := RX0) (T := TX0) (N := 6) hx hb hts hi0 tyX0 tyX0_ok nmX0 hown hK hP hD hS 0 rfl rfl 3 (by decide) f21 (fun _ h9 => h9) rfl (by decide +kernel) rfl rfl (Nat.le_of_ble_eq_true rfl) dX0_put_19 (fun H locs hP hD hS => ?_)
  have hP : va_P (dC, dI) vwCl [(h0, .inr (0, [.long a, .long b, .long cc, .long d, .long dx, .long dy]))] H := hP
  have hD : va_D A [(h0, .inr (0, [.long a, .long b, .long cc, .long d, .long dx, .long dy]))] := hD
  refine lv_aload_n hx hb dX0_put_22 rfl (lv_at hl 0 rfl) ?_
  refine lv_lconst (v := 0) hx hb dX0_put_23 (by decide) ?_
  refine lv_lconst (v := 0) hx hb dX0_put_24 (by decide) ?_
  refine kmVv (q0 := 0) (ci := 0) (As := [.long 0, .long 0]) (rest := []) (WC := [(h0, .inr (0, [.long a, .long b, .long cc, .long d, .long dx, .long dy]))]) (W2 := [(h0, .inr (0, [.long a, .long b, .long cc, .long d, .long 0, .long 0]))]) (WR := []) (WN := [(h0, .inr (0, [.long a, .long b, .long cc, .long d, .long 0, .long 0]))]) (tyC := []) (isC := [0]) (isR := []) (isN := [0]) (its := []) ⟨hx, hb, hml, hown, hts⟩ (tX0_head l dC dI h0 a b cc d dx dy 0 0) (cwV 2 hts gX0_put_X0_head rfl rfl rfl (by decide +kernel) ⟨Nat.le_of_ble_eq_true rfl, Nat.le_of_ble_eq_true rfl⟩) hP hD hA hS hK rfl (by decide) rfl (by decide) (by decide) rfl (by decide) rfl rfl rfl rfl rfl hl.1 (Nat.le_of_ble_eq_true rfl) dX0_put_25 ⟨Nat.le_of_ble_eq_true rfl, Nat.le_of_ble_eq_true rfl⟩ (fun H locs hP hD hS => ?_)
  exact kEv hx hb hr hlocks hP hK hD hS dX0_put_28

set_option maxHeartbeats 4000000 in
set_option maxRecDepth 100000 in
/-- putTile(i, j) -/
theorem tX0_putTile (l : Launch) (dC : Nat → ClassId) (dI : Nat → Nat → Nat) (h0 : Nat) (x0 y0 x1 y1 dx dy : Int64) (i j : Int32)  : MMv l yX0_putTile wsX0_putTile { frames := 2, cells := 0, slots := 0, locals := 52 } [.ref h0, .int i, .int j] (dC, dI) [(h0, .inr (0, [.long x0, .long y0, .long x1, .long y1, .long dx, .long dy]))] [(h0, .inr (0, [.long (16 * i.toInt64), .long (16 * j.toInt64), .long ((16 * i.toInt64) + 16), .long ((16 * j.toInt64) + 16), .long 0, .long 0]))] [] := by
  intro sz
  refine kOf (cc := cX0_putTile) (maxL := 3) (ret := none) (by decide) rfl (Nat.le_of_ble_eq_true rfl) ?_
  intro p e s m below meth c hx hb hr hml hts hown hlocks hB ls hl
  obtain ⟨hsz, hP, hK, hD0⟩ := hB
  subst hsz
  have hD := hD0.self (sz := s.heap.size)
  generalize hAe : va_A [(h0, .inr (0, [.long x0, .long y0, .long x1, .long y1, .long dx, .long dy]))] s.heap.size = A at hD ⊢
  have hA : ∀ q : Nat, s.heap.size ≤ q → A q := fun q h => by rw [← hAe]; exact Or.inr h
  have hS : va_S A s.heap s.heap [] := va_S.rf
  have hl : lv_has ls 3 [(0, .ref h0), (1, .int i), (2, .int j)] := hl
  refine lv_aload_n hx hb dX0_putTile_0 rfl (lv_at hl 0 rfl) ?_
  refine lv_ldc2 hx hb hown (hts (.constantLong RX0 28 (16)) (by decide +kernel)) dX0_putTile_1 ?_
  refine lv_iload_n hx hb dX0_putTile_4 rfl (lv_at hl 1 rfl) ?_
  refine lv_i2l hx hb dX0_putTile_5 rfl ?_
  refine lv_lmul hx hb dX0_putTile_6 ?_
  refine lv_ldc2 hx hb hown (hts (.constantLong RX0 28 (16)) (by decide +kernel)) dX0_putTile_7 ?_
  refine lv_iload_n hx hb dX0_putTile_10 rfl (lv_at hl 2 rfl) ?_
  refine lv_i2l hx hb dX0_putTile_11 rfl ?_
  refine lv_lmul hx hb dX0_putTile_12 ?_
  refine lv_ldc2 hx hb hown (hts (.constantLong RX0 28 (16)) (by decide +kernel)) dX0_putTile_13 ?_
  refine lv_iload_n hx hb dX0_putTile_16 rfl (lv_at hl 1 rfl) ?_
  refine lv_i2l hx hb dX0_putTile_17 rfl ?_
  refine lv_lmul hx hb dX0_putTile_18 ?_
  refine lv_ldc2 hx hb hown (hts (.constantLong RX0 28 (16)) (by decide +kernel)) dX0_putTile_19 ?_
  refine lv_ladd hx hb dX0_putTile_22 ?_
  refine lv_ldc2 hx hb hown (hts (.constantLong RX0 28 (16)) (by decide +kernel)) dX0_putTile_23 ?_
  refine lv_iload_n hx hb dX0_putTile_26 rfl (lv_at hl 2 rfl) ?_
  refine lv_i2l hx hb dX0_putTile_27 rfl ?_
  refine lv_lmul hx hb dX0_putTile_28 ?_
  refine lv_ldc2 hx hb hown (hts (.constantLong RX0 28 (16)) (by decide +kernel)) dX0_putTile_29 ?_
  refine lv_ladd hx hb dX0_putTile_32 ?_
  refine kmVv (q0 := 0) (ci := 0) (As := [.long (16 * i.toInt64), .long (16 * j.toInt64), .long ((16 * i.toInt64) + 16), .long ((16 * j.toInt64) + 16)]) (rest := []) (WC := [(h0, .inr (0, [.long x0, .long y0, .long x1, .long y1, .long dx, .long dy]))]) (W2 := [(h0, .inr (0, [.long (16 * i.toInt64), .long (16 * j.toInt64), .long ((16 * i.toInt64) + 16), .long ((16 * j.toInt64) + 16), .long 0, .long 0]))]) (WR := []) (WN := [(h0, .inr (0, [.long (16 * i.toInt64), .long (16 * j.toInt64), .long ((16 * i.toInt64) + 16), .long ((16 * j.toInt64) + 16), .long 0, .long 0]))]) (tyC := []) (isC := [0]) (isR := []) (isN := [0]) (its := []) ⟨hx, hb, hml, hown, hts⟩ (tX0_put l dC dI h0 x0 y0 x1 y1 dx dy (16 * i.toInt64) (16 * j.toInt64) ((16 * i.toInt64) + 16) ((16 * j.toInt64) + 16)) (cwV 4 hts gX0_putTile_X0_put rfl rfl rfl (by decide +kernel) ⟨Nat.le_of_ble_eq_true rfl, Nat.le_of_ble_eq_true rfl⟩) hP hD hA hS hK rfl (by decide) rfl (by decide) (by decide) rfl (by decide) rfl rfl rfl rfl rfl hl.1 (Nat.le_of_ble_eq_true rfl) dX0_putTile_33 ⟨Nat.le_of_ble_eq_true rfl, Nat.le_of_ble_eq_true rfl⟩ (fun H locs hP hD hS => ?_)
  exact kEv hx hb hr hlocks hP hK hD hS dX0_putTile_36

set_option maxHeartbeats 4000000 in
set_option maxRecDepth 100000 in
/-- shift(a, b) -/
theorem tX0_shift (l : Launch) (dC : Nat → ClassId) (dI : Nat → Nat → Nat) (h0 : Nat) (x0 y0 x1 y1 dx dy : Int64) (a b : Int64)  : MMv l yX0_shift wsX0_shift { frames := 0, cells := 0, slots := 0, locals := 0 } [.ref h0, .long a, .long b] (dC, dI) [(h0, .inr (0, [.long x0, .long y0, .long x1, .long y1, .long dx, .long dy]))] [(h0, .inr (0, [.long (x0 + a), .long (y0 + b), .long (x1 + a), .long (y1 + b), .long dx, .long dy]))] [] := by
  intro sz
  refine kOf (cc := cX0_shift) (maxL := 5) (ret := none) (by decide) rfl (Nat.le_of_ble_eq_true rfl) ?_
  intro p e s m below meth c hx hb hr hml hts hown hlocks hB ls hl
  obtain ⟨hsz, hP, hK, hD0⟩ := hB
  subst hsz
  have hD := hD0.self (sz := s.heap.size)
  generalize hAe : va_A [(h0, .inr (0, [.long x0, .long y0, .long x1, .long y1, .long dx, .long dy]))] s.heap.size = A at hD ⊢
  have hA : ∀ q : Nat, s.heap.size ≤ q → A q := fun q h => by rw [← hAe]; exact Or.inr h
  have hS : va_S A s.heap s.heap [] := va_S.rf
  have hl : lv_has ls 5 [(0, .ref h0), (1, .long a), (3, .long b)] := hl
  have hi0 : ∀ w ∈ u_ws RX0 TX0 6, w ∈ wsX0_shift := by decide +kernel
  have f9 := hts (.fieldLink RX0 9 "SweptBoxes$Block" "x0" "J") (by decide +kernel)
  have f15 := hts (.fieldLink RX0 15 "SweptBoxes$Block" "y0" "J") (by decide +kernel)
  have f18 := hts (.fieldLink RX0 18 "SweptBoxes$Block" "x1" "J") (by decide +kernel)
  have f21 := hts (.fieldLink RX0 21 "SweptBoxes$Block" "y1" "J") (by decide +kernel)
  refine lv_aload_n hx hb dX0_shift_0 rfl (lv_at hl 0 rfl) ?_
  refine lv_dup hx hb dX0_shift_1 rfl ?_
  refine va_get (D := (dC, dI)) (ci := 0) (v := .long x0) (C := RX0) (T := TX0) (N := 6) hx hb hts hi0 hown hK hP 0 rfl rfl 0 (by decide) f9 (fun _ h9 => h9) rfl dX0_shift_2 ?_
  refine lv_lload_n hx hb dX0_shift_5 rfl (lv_at hl 1 rfl) ?_
  refine lv_ladd hx hb dX0_shift_6 ?_
  refine va_put (D := (dC, dI)) (ci := 0) (v := .long (x0 + a)) (ty := .long) (C := RX0) (T := TX0) (N := 6) hx hb hts hi0 tyX0 tyX0_ok nmX0 hown hK hP hD hS 0 rfl rfl 0 (by decide) f9 (fun _ h9 => h9) rfl (by decide +kernel) rfl rfl (Nat.le_of_ble_eq_true rfl) dX0_shift_7 (fun H locs hP hD hS => ?_)
  have hP : va_P (dC, dI) vwCl [(h0, .inr (0, [.long (x0 + a), .long y0, .long x1, .long y1, .long dx, .long dy]))] H := hP
  have hD : va_D A [(h0, .inr (0, [.long (x0 + a), .long y0, .long x1, .long y1, .long dx, .long dy]))] := hD
  refine lv_aload_n hx hb dX0_shift_10 rfl (lv_at hl 0 rfl) ?_
  refine lv_dup hx hb dX0_shift_11 rfl ?_
  refine va_get (D := (dC, dI)) (ci := 0) (v := .long y0) (C := RX0) (T := TX0) (N := 6) hx hb hts hi0 hown hK hP 0 rfl rfl 1 (by decide) f15 (fun _ h9 => h9) rfl dX0_shift_12 ?_
  refine lv_lload_n hx hb dX0_shift_15 rfl (lv_at hl 2 rfl) ?_
  refine lv_ladd hx hb dX0_shift_16 ?_
  refine va_put (D := (dC, dI)) (ci := 0) (v := .long (y0 + b)) (ty := .long) (C := RX0) (T := TX0) (N := 6) hx hb hts hi0 tyX0 tyX0_ok nmX0 hown hK hP hD hS 0 rfl rfl 1 (by decide) f15 (fun _ h9 => h9) rfl (by decide +kernel) rfl rfl (Nat.le_of_ble_eq_true rfl) dX0_shift_17 (fun H locs hP hD hS => ?_)
  have hP : va_P (dC, dI) vwCl [(h0, .inr (0, [.long (x0 + a), .long (y0 + b), .long x1, .long y1, .long dx, .long dy]))] H := hP
  have hD : va_D A [(h0, .inr (0, [.long (x0 + a), .long (y0 + b), .long x1, .long y1, .long dx, .long dy]))] := hD
  refine lv_aload_n hx hb dX0_shift_20 rfl (lv_at hl 0 rfl) ?_
  refine lv_dup hx hb dX0_shift_21 rfl ?_
  refine va_get (D := (dC, dI)) (ci := 0) (v := .long x1) (C := RX0) (T := TX0) (N := 6) hx hb hts hi0 hown hK hP 0 rfl rfl 2 (by decide) f18 (fun _ h9 => h9) rfl dX0_shift_22 ?_
  refine lv_lload_n hx hb dX0_shift_25 rfl (lv_at hl 1 rfl) ?_
  refine lv_ladd hx hb dX0_shift_26 ?_
  refine va_put (D := (dC, dI)) (ci := 0) (v := .long (x1 + a)) (ty := .long) (C := RX0) (T := TX0) (N := 6) hx hb hts hi0 tyX0 tyX0_ok nmX0 hown hK hP hD hS 0 rfl rfl 2 (by decide) f18 (fun _ h9 => h9) rfl (by decide +kernel) rfl rfl (Nat.le_of_ble_eq_true rfl) dX0_shift_27 (fun H locs hP hD hS => ?_)
  have hP : va_P (dC, dI) vwCl [(h0, .inr (0, [.long (x0 + a), .long (y0 + b), .long (x1 + a), .long y1, .long dx, .long dy]))] H := hP
  have hD : va_D A [(h0, .inr (0, [.long (x0 + a), .long (y0 + b), .long (x1 + a), .long y1, .long dx, .long dy]))] := hD
  refine lv_aload_n hx hb dX0_shift_30 rfl (lv_at hl 0 rfl) ?_
  refine lv_dup hx hb dX0_shift_31 rfl ?_
  refine va_get (D := (dC, dI)) (ci := 0) (v := .long y1) (C := RX0) (T := TX0) (N := 6) hx hb hts hi0 hown hK hP 0 rfl rfl 3 (by decide) f21 (fun _ h9 => h9) rfl dX0_shift_32 ?_
  refine lv_lload_n hx hb dX0_shift_35 rfl (lv_at hl 2 rfl) ?_
  refine lv_ladd hx hb dX0_shift_36 ?_
  refine va_put (D := (dC, dI)) (ci := 0) (v := .long (y1 + b)) (ty := .long) (C := RX0) (T := TX0) (N := 6) hx hb hts hi0 tyX0 tyX0_ok nmX0 hown hK hP hD hS 0 rfl rfl 3 (by decide) f21 (fun _ h9 => h9) rfl (by decide +kernel) rfl rfl (Nat.le_of_ble_eq_true rfl) dX0_shift_37 (fun H locs hP hD hS => ?_)
  have hP : va_P (dC, dI) vwCl [(h0, .inr (0, [.long (x0 + a), .long (y0 + b), .long (x1 + a), .long (y1 + b), .long dx, .long dy]))] H := hP
  have hD : va_D A [(h0, .inr (0, [.long (x0 + a), .long (y0 + b), .long (x1 + a), .long (y1 + b), .long dx, .long dy]))] := hD
  exact kEv hx hb hr hlocks hP hK hD hS dX0_shift_40

set_option maxHeartbeats 4000000 in
set_option maxRecDepth 100000 in
theorem tX0_hasMidst (l : Launch) (dC : Nat → ClassId) (dI : Nat → Nat → Nat) (h0 : Nat) (x0 y0 x1 y1 dx dy : Int64)  : PMi l yX0_hasMidst wsX0_hasMidst { frames := 0, cells := 0, slots := 0, locals := 0 } [.ref h0] (dC, dI) [(h0, .inr (0, [.long x0, .long y0, .long x1, .long y1, .long dx, .long dy]))] [] (bI (decide (x0 < x1 ∧ y0 < y1))) := by
  refine kOf (cc := cX0_hasMidst) (maxL := 1) (ret := (some .boolean)) (by decide) rfl (Nat.le_of_ble_eq_true rfl) ?_
  intro p e s m below meth c hx hb hr hml hts hown hlocks hB ls hl
  obtain ⟨hP, hK⟩ := hB
  have hl : lv_has ls 1 [(0, .ref h0)] := hl
  have hi0 : ∀ w ∈ u_ws RX0 TX0 6, w ∈ wsX0_hasMidst := by decide +kernel
  have f9 := hts (.fieldLink RX0 9 "SweptBoxes$Block" "x0" "J") (by decide +kernel)
  have f15 := hts (.fieldLink RX0 15 "SweptBoxes$Block" "y0" "J") (by decide +kernel)
  have f18 := hts (.fieldLink RX0 18 "SweptBoxes$Block" "x1" "J") (by decide +kernel)
  have f21 := hts (.fieldLink RX0 21 "SweptBoxes$Block" "y1" "J") (by decide +kernel)
  refine lv_aload_n hx hb dX0_hasMidst_0 rfl (lv_at hl 0 rfl) ?_
  refine va_get (D := (dC, dI)) (ci := 0) (v := .long x0) (C := RX0) (T := TX0) (N := 6) hx hb hts hi0 hown hK hP 0 rfl rfl 0 (by decide) f9 (fun _ h9 => h9) rfl dX0_hasMidst_1 ?_
  refine lv_aload_n hx hb dX0_hasMidst_4 rfl (lv_at hl 0 rfl) ?_
  refine va_get (D := (dC, dI)) (ci := 0) (v := .long x1) (C := RX0) (T := TX0) (N := 6) hx hb hts hi0 hown hK hP 0 rfl rfl 2 (by decide) f18 (fun _ h9 => h9) rfl dX0_hasMidst_5 ?_
  refine W.lcmp hx hb dX0_hasMidst_8 ?_
  refine lv_if_ge (tgt := 28) hx hb dX0_hasMidst_9 (by decide) (fun c9 => ?_) (fun c9 => ?_)
  · rw [lg_cmp_ge] at c9
    refine lv_iconst (v := 0) hx hb dX0_hasMidst_28 (by decide) ?_
    exact kRz hx hb hr hlocks dX0_hasMidst_29 (kz0 (by (try simp only [Int64.lt_iff_toInt_lt, Int64.le_iff_toInt_le, ← Int64.toInt_inj, Int32.lt_iff_toInt_lt, Int32.le_iff_toInt_le, ← Int32.toInt_inj] at c9 ⊢); omega))
  · rw [lg_cmp_ge, Int64.not_le] at c9
    refine lv_aload_n hx hb dX0_hasMidst_12 rfl (lv_at hl 0 rfl) ?_
    refine va_get (D := (dC, dI)) (ci := 0) (v := .long y0) (C := RX0) (T := TX0) (N := 6) hx hb hts hi0 hown hK hP 0 rfl rfl 1 (by decide) f15 (fun _ h9 => h9) rfl dX0_hasMidst_13 ?_
    refine lv_aload_n hx hb dX0_hasMidst_16 rfl (lv_at hl 0 rfl) ?_
    refine va_get (D := (dC, dI)) (ci := 0) (v := .long y1) (C := RX0) (T := TX0) (N := 6) hx hb hts hi0 hown hK hP 0 rfl rfl 3 (by decide) f21 (fun _ h9 => h9) rfl dX0_hasMidst_17 ?_
    refine W.lcmp hx hb dX0_hasMidst_20 ?_
    refine lv_if_ge (tgt := 28) hx hb dX0_hasMidst_21 (by decide) (fun c21 => ?_) (fun c21 => ?_)
    · rw [lg_cmp_ge] at c21
      refine lv_iconst (v := 0) hx hb dX0_hasMidst_28 (by decide) ?_
      exact kRz hx hb hr hlocks dX0_hasMidst_29 (kz0 (by (try simp only [Int64.lt_iff_toInt_lt, Int64.le_iff_toInt_le, ← Int64.toInt_inj, Int32.lt_iff_toInt_lt, Int32.le_iff_toInt_le, ← Int32.toInt_inj] at c9 c21 ⊢); omega))
    · rw [lg_cmp_ge, Int64.not_le] at c21
      refine lv_iconst (v := 1) hx hb dX0_hasMidst_24 (by decide) ?_
      refine lv_goto (tgt := 29) hx hb dX0_hasMidst_25 (by decide) ?_
      exact kRz hx hb hr hlocks dX0_hasMidst_29 (kz1 (by (try simp only [Int64.lt_iff_toInt_lt, Int64.le_iff_toInt_le, ← Int64.toInt_inj, Int32.lt_iff_toInt_lt, Int32.le_iff_toInt_le, ← Int32.toInt_inj] at c9 c21 ⊢); omega))

set_option maxHeartbeats 4000000 in
set_option maxRecDepth 100000 in
theorem tX0_liesOverRange (l : Launch) (dC : Nat → ClassId) (dI : Nat → Nat → Nat) (h0 : Nat) (x0 y0 x1 y1 dx dy : Int64) (a b cc d : Int64)  : PMi l yX0_liesOverRange wsX0_liesOverRange { frames := 0, cells := 0, slots := 0, locals := 0 } [.ref h0, .long a, .long b, .long cc, .long d] (dC, dI) [(h0, .inr (0, [.long x0, .long y0, .long x1, .long y1, .long dx, .long dy]))] [] (bI (decide (x0 < cc ∧ a < x1 ∧ y0 < d ∧ b < y1))) := by
  refine kOf (cc := cX0_liesOverRange) (maxL := 9) (ret := (some .boolean)) (by decide) rfl (Nat.le_of_ble_eq_true rfl) ?_
  intro p e s m below meth c hx hb hr hml hts hown hlocks hB ls hl
  obtain ⟨hP, hK⟩ := hB
  have hl : lv_has ls 9 [(0, .ref h0), (1, .long a), (3, .long b), (5, .long cc), (7, .long d)] := hl
  have hi0 : ∀ w ∈ u_ws RX0 TX0 6, w ∈ wsX0_liesOverRange := by decide +kernel
  have f9 := hts (.fieldLink RX0 9 "SweptBoxes$Block" "x0" "J") (by decide +kernel)
  have f15 := hts (.fieldLink RX0 15 "SweptBoxes$Block" "y0" "J") (by decide +kernel)
  have f18 := hts (.fieldLink RX0 18 "SweptBoxes$Block" "x1" "J") (by decide +kernel)
  have f21 := hts (.fieldLink RX0 21 "SweptBoxes$Block" "y1" "J") (by decide +kernel)
  refine lv_aload_n hx hb dX0_liesOverRange_0 rfl (lv_at hl 0 rfl) ?_
  refine va_get (D := (dC, dI)) (ci := 0) (v := .long x0) (C := RX0) (T := TX0) (N := 6) hx hb hts hi0 hown hK hP 0 rfl rfl 0 (by decide) f9 (fun _ h9 => h9) rfl dX0_liesOverRange_1 ?_
  refine lv_lload hx hb dX0_liesOverRange_4 (lv_at hl 3 rfl) ?_
  refine W.lcmp hx hb dX0_liesOverRange_6 ?_
  refine lv_if_ge (tgt := 42) hx hb dX0_liesOverRange_7 (by decide) (fun c7 => ?_) (fun c7 => ?_)
  · rw [lg_cmp_ge] at c7
    refine lv_iconst (v := 0) hx hb dX0_liesOverRange_42 (by decide) ?_
    exact kRz hx hb hr hlocks dX0_liesOverRange_43 (kz0 (by (try simp only [Int64.lt_iff_toInt_lt, Int64.le_iff_toInt_le, ← Int64.toInt_inj, Int32.lt_iff_toInt_lt, Int32.le_iff_toInt_le, ← Int32.toInt_inj] at c7 ⊢); omega))
  · rw [lg_cmp_ge, Int64.not_le] at c7
    refine lv_lload_n hx hb dX0_liesOverRange_10 rfl (lv_at hl 1 rfl) ?_
    refine lv_aload_n hx hb dX0_liesOverRange_11 rfl (lv_at hl 0 rfl) ?_
    refine va_get (D := (dC, dI)) (ci := 0) (v := .long x1) (C := RX0) (T := TX0) (N := 6) hx hb hts hi0 hown hK hP 0 rfl rfl 2 (by decide) f18 (fun _ h9 => h9) rfl dX0_liesOverRange_12 ?_
    refine W.lcmp hx hb dX0_liesOverRange_15 ?_
    refine lv_if_ge (tgt := 42) hx hb dX0_liesOverRange_16 (by decide) (fun c16 => ?_) (fun c16 => ?_)
    · rw [lg_cmp_ge] at c16
      refine lv_iconst (v := 0) hx hb dX0_liesOverRange_42 (by decide) ?_
      exact kRz hx hb hr hlocks dX0_liesOverRange_43 (kz0 (by (try simp only [Int64.lt_iff_toInt_lt, Int64.le_iff_toInt_le, ← Int64.toInt_inj, Int32.lt_iff_toInt_lt, Int32.le_iff_toInt_le, ← Int32.toInt_inj] at c7 c16 ⊢); omega))
    · rw [lg_cmp_ge, Int64.not_le] at c16
      refine lv_aload_n hx hb dX0_liesOverRange_19 rfl (lv_at hl 0 rfl) ?_
      refine va_get (D := (dC, dI)) (ci := 0) (v := .long y0) (C := RX0) (T := TX0) (N := 6) hx hb hts hi0 hown hK hP 0 rfl rfl 1 (by decide) f15 (fun _ h9 => h9) rfl dX0_liesOverRange_20 ?_
      refine lv_lload hx hb dX0_liesOverRange_23 (lv_at hl 4 rfl) ?_
      refine W.lcmp hx hb dX0_liesOverRange_25 ?_
      refine lv_if_ge (tgt := 42) hx hb dX0_liesOverRange_26 (by decide) (fun c26 => ?_) (fun c26 => ?_)
      · rw [lg_cmp_ge] at c26
        refine lv_iconst (v := 0) hx hb dX0_liesOverRange_42 (by decide) ?_
        exact kRz hx hb hr hlocks dX0_liesOverRange_43 (kz0 (by (try simp only [Int64.lt_iff_toInt_lt, Int64.le_iff_toInt_le, ← Int64.toInt_inj, Int32.lt_iff_toInt_lt, Int32.le_iff_toInt_le, ← Int32.toInt_inj] at c7 c16 c26 ⊢); omega))
      · rw [lg_cmp_ge, Int64.not_le] at c26
        refine lv_lload_n hx hb dX0_liesOverRange_29 rfl (lv_at hl 2 rfl) ?_
        refine lv_aload_n hx hb dX0_liesOverRange_30 rfl (lv_at hl 0 rfl) ?_
        refine va_get (D := (dC, dI)) (ci := 0) (v := .long y1) (C := RX0) (T := TX0) (N := 6) hx hb hts hi0 hown hK hP 0 rfl rfl 3 (by decide) f21 (fun _ h9 => h9) rfl dX0_liesOverRange_31 ?_
        refine W.lcmp hx hb dX0_liesOverRange_34 ?_
        refine lv_if_ge (tgt := 42) hx hb dX0_liesOverRange_35 (by decide) (fun c35 => ?_) (fun c35 => ?_)
        · rw [lg_cmp_ge] at c35
          refine lv_iconst (v := 0) hx hb dX0_liesOverRange_42 (by decide) ?_
          exact kRz hx hb hr hlocks dX0_liesOverRange_43 (kz0 (by (try simp only [Int64.lt_iff_toInt_lt, Int64.le_iff_toInt_le, ← Int64.toInt_inj, Int32.lt_iff_toInt_lt, Int32.le_iff_toInt_le, ← Int32.toInt_inj] at c7 c16 c26 c35 ⊢); omega))
        · rw [lg_cmp_ge, Int64.not_le] at c35
          refine lv_iconst (v := 1) hx hb dX0_liesOverRange_38 (by decide) ?_
          refine lv_goto (tgt := 43) hx hb dX0_liesOverRange_39 (by decide) ?_
          exact kRz hx hb hr hlocks dX0_liesOverRange_43 (kz1 (by (try simp only [Int64.lt_iff_toInt_lt, Int64.le_iff_toInt_le, ← Int64.toInt_inj, Int32.lt_iff_toInt_lt, Int32.le_iff_toInt_le, ← Int32.toInt_inj] at c7 c16 c26 c35 ⊢); omega))

set_option maxHeartbeats 4000000 in
set_option maxRecDepth 100000 in
theorem tX0_liesOver (l : Launch) (dC : Nat → ClassId) (dI : Nat → Nat → Nat) (h0 : Nat) (x0 y0 x1 y1 dx dy : Int64) (h1 : Nat) (ux0 uy0 ux1 uy1 udx udy : Int64)  : PMi l yX0_liesOver wsX0_liesOver { frames := 1, cells := 0, slots := 0, locals := 28 } [.ref h0, .ref h1] (dC, dI) [(h0, .inr (0, [.long x0, .long y0, .long x1, .long y1, .long dx, .long dy])), (h1, .inr (0, [.long ux0, .long uy0, .long ux1, .long uy1, .long udx, .long udy]))] [] (bI (decide (x0 < ux1 ∧ ux0 < x1 ∧ y0 < uy1 ∧ uy0 < y1))) := by
  refine kOf (cc := cX0_liesOver) (maxL := 2) (ret := (some .boolean)) (by decide) rfl (Nat.le_of_ble_eq_true rfl) ?_
  intro p e s m below meth c hx hb hr hml hts hown hlocks hB ls hl
  obtain ⟨hP, hK⟩ := hB
  have hl : lv_has ls 2 [(0, .ref h0), (1, .ref h1)] := hl
  have hi0 : ∀ w ∈ u_ws RX0 TX0 6, w ∈ wsX0_liesOver := by decide +kernel
  have f9 := hts (.fieldLink RX0 9 "SweptBoxes$Block" "x0" "J") (by decide +kernel)
  have f15 := hts (.fieldLink RX0 15 "SweptBoxes$Block" "y0" "J") (by decide +kernel)
  have f18 := hts (.fieldLink RX0 18 "SweptBoxes$Block" "x1" "J") (by decide +kernel)
  have f21 := hts (.fieldLink RX0 21 "SweptBoxes$Block" "y1" "J") (by decide +kernel)
  refine lv_aload_n hx hb dX0_liesOver_0 rfl (lv_at hl 0 rfl) ?_
  refine lv_aload_n hx hb dX0_liesOver_1 rfl (lv_at hl 1 rfl) ?_
  refine va_get (D := (dC, dI)) (ci := 0) (v := .long ux0) (C := RX0) (T := TX0) (N := 6) hx hb hts hi0 hown hK hP 1 rfl rfl 0 (by decide) f9 (fun _ h9 => h9) rfl dX0_liesOver_2 ?_
  refine lv_aload_n hx hb dX0_liesOver_5 rfl (lv_at hl 1 rfl) ?_
  refine va_get (D := (dC, dI)) (ci := 0) (v := .long uy0) (C := RX0) (T := TX0) (N := 6) hx hb hts hi0 hown hK hP 1 rfl rfl 1 (by decide) f15 (fun _ h9 => h9) rfl dX0_liesOver_6 ?_
  refine lv_aload_n hx hb dX0_liesOver_9 rfl (lv_at hl 1 rfl) ?_
  refine va_get (D := (dC, dI)) (ci := 0) (v := .long ux1) (C := RX0) (T := TX0) (N := 6) hx hb hts hi0 hown hK hP 1 rfl rfl 2 (by decide) f18 (fun _ h9 => h9) rfl dX0_liesOver_10 ?_
  refine lv_aload_n hx hb dX0_liesOver_13 rfl (lv_at hl 1 rfl) ?_
  refine va_get (D := (dC, dI)) (ci := 0) (v := .long uy1) (C := RX0) (T := TX0) (N := 6) hx hb hts hi0 hown hK hP 1 rfl rfl 3 (by decide) f21 (fun _ h9 => h9) rfl dX0_liesOver_14 ?_
  refine kpVi (q0 := 0) (ci := 0) (As := [.long ux0, .long uy0, .long ux1, .long uy1]) (rest := []) (WC := [(h0, .inr (0, [.long x0, .long y0, .long x1, .long y1, .long dx, .long dy]))]) (tyC := []) ⟨hx, hb, hml, hown, hts⟩ (tX0_liesOverRange l dC dI h0 x0 y0 x1 y1 dx dy ux0 uy0 ux1 uy1) (cwV 4 hts gX0_liesOver_X0_liesOverRange rfl rfl rfl (by decide +kernel) ⟨Nat.le_of_ble_eq_true rfl, Nat.le_of_ble_eq_true rfl⟩) (kPick (isC := [0]) hP rfl) (hK.sub [] rfl) rfl rfl rfl rfl hl.1 (Nat.le_of_ble_eq_true rfl) dX0_liesOver_17 ⟨Nat.le_of_ble_eq_true rfl, Nat.le_of_ble_eq_true rfl⟩ ?_
  exact kRz hx hb hr hlocks dX0_liesOver_20 rfl
