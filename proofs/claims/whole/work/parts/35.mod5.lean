def mIU : Nat → (Nat → Int64) → (Nat → Int64) → Int64 → Int64 → (Nat → Int64)
  | 0, gu, gl, u, l_ => vp_updL gu 0 u
  | q + 1, gu, gl, u, l_ => if u * gl q < gu q * l_ then mIU q (vp_updL gu (q + 1) (gu q)) (vp_updL gl (q + 1) (gl q)) u l_ else vp_updL gu (q + 1) u
theorem mIU_s {q : Nat} {gu gl : Nat → Int64} {u l_ : Int64} (h : 0 < q) (hc : u * gl (q - 1) < gu (q - 1) * l_) : mIU q gu gl u l_ = mIU (q - 1) (vp_updL gu q (gu (q - 1))) (vp_updL gl q (gl (q - 1))) u l_ := by
  cases q with
  | zero => omega
  | succ q => simp only [Nat.add_sub_cancel] at hc ⊢; rw [mIU, if_pos hc]
theorem mIU_e {q : Nat} {gu gl : Nat → Int64} {u l_ : Int64} (h : q ≤ 0 ∨ gu (q - 1) * l_ ≤ u * gl (q - 1)) : mIU q gu gl u l_ = vp_updL gu q u := by
  cases q with
  | zero => rfl
  | succ q => simp only [Nat.add_sub_cancel] at h; rw [mIU, if_neg (Int64.not_lt.mpr (h.resolve_left (by omega)))]
theorem mIU_out : ∀ (q : Nat) (gu gl : Nat → Int64) (u l_ : Int64) (j : Nat), q < j → mIU q gu gl u l_ j = gu j
  | 0, gu, gl, u, l_, j, h => by rw [mIU]; exact pk_uLn (by omega)
  | q + 1, gu, gl, u, l_, j, h => by
    rw [mIU]; split
    · rw [mIU_out q _ _ _ _ j (by omega)]; exact pk_uLn (by omega)
    · exact pk_uLn (by omega)
def mIL : Nat → (Nat → Int64) → (Nat → Int64) → Int64 → Int64 → (Nat → Int64)
  | 0, gu, gl, u, l_ => vp_updL gl 0 l_
  | q + 1, gu, gl, u, l_ => if u * gl q < gu q * l_ then mIL q (vp_updL gu (q + 1) (gu q)) (vp_updL gl (q + 1) (gl q)) u l_ else vp_updL gl (q + 1) l_
theorem mIL_s {q : Nat} {gu gl : Nat → Int64} {u l_ : Int64} (h : 0 < q) (hc : u * gl (q - 1) < gu (q - 1) * l_) : mIL q gu gl u l_ = mIL (q - 1) (vp_updL gu q (gu (q - 1))) (vp_updL gl q (gl (q - 1))) u l_ := by
  cases q with
  | zero => omega
  | succ q => simp only [Nat.add_sub_cancel] at hc ⊢; rw [mIL, if_pos hc]
theorem mIL_e {q : Nat} {gu gl : Nat → Int64} {u l_ : Int64} (h : q ≤ 0 ∨ gu (q - 1) * l_ ≤ u * gl (q - 1)) : mIL q gu gl u l_ = vp_updL gl q l_ := by
  cases q with
  | zero => rfl
  | succ q => simp only [Nat.add_sub_cancel] at h; rw [mIL, if_neg (Int64.not_lt.mpr (h.resolve_left (by omega)))]
theorem mIL_out : ∀ (q : Nat) (gu gl : Nat → Int64) (u l_ : Int64) (j : Nat), q < j → mIL q gu gl u l_ j = gl j
  | 0, gu, gl, u, l_, j, h => by rw [mIL]; exact pk_uLn (by omega)
  | q + 1, gu, gl, u, l_, j, h => by
    rw [mIL]; split
    · rw [mIL_out q _ _ _ _ j (by omega)]; exact pk_uLn (by omega)
    · exact pk_uLn (by omega)
def mAu_ (fr to by_ : Int64) : Int64 := if by_ < 0 then fr - to else to - fr
def mAl_ (by_ : Int64) : Int64 := if by_ < 0 then -by_ else by_
def mAok (fr to by_ : Int64) : Prop := ¬ mAl_ by_ = 0 ∧ 0 ≤ mAu_ fr to by_ ∧ mAu_ fr to by_ ≤ mAl_ by_
noncomputable def mAdd (q : (Nat → Int64) × (Nat → Int64) × Nat) (fr to by_ : Int64) : (Nat → Int64) × (Nat → Int64) × Nat := if pB (mAok fr to by_) then (mIU q.2.2 q.1 q.2.1 (mAu_ fr to by_) (mAl_ by_), mIL q.2.2 q.1 q.2.1 (mAu_ fr to by_) (mAl_ by_), q.2.2 + 1) else q
theorem mAdd_y {q : (Nat → Int64) × (Nat → Int64) × Nat} {fr to by_ u l_ : Int64} (hu : mAu_ fr to by_ = u) (hl : mAl_ by_ = l_) (h1 : ¬ l_ = 0) (h2 : 0 ≤ u) (h3 : u ≤ l_) : mAdd q fr to by_ = (mIU q.2.2 q.1 q.2.1 u l_, mIL q.2.2 q.1 q.2.1 u l_, q.2.2 + 1) := by
  subst hu; subst hl; unfold mAdd; rw [if_pos (pB_t ⟨h1, h2, h3⟩)]
theorem mAdd_n {q : (Nat → Int64) × (Nat → Int64) × Nat} {fr to by_ u l_ : Int64} (hu : mAu_ fr to by_ = u) (hl : mAl_ by_ = l_) (h : l_ = 0 ∨ u < 0 ∨ l_ < u) : mAdd q fr to by_ = q := by
  subst hu; subst hl; unfold mAdd; rw [if_neg]
  intro z
  obtain ⟨z1, z2, z3⟩ := pB_iff.mp z
  rcases h with h | h | h
  · exact z1 h
  · exact absurd h (Int64.not_lt.mpr z2)
  · exact absurd h (Int64.not_lt.mpr z3)
theorem mAdd_le (q : (Nat → Int64) × (Nat → Int64) × Nat) (fr to by_ : Int64) : (mAdd q fr to by_).2.2 ≤ q.2.2 + 1 := by
  unfold mAdd; split
  · exact Nat.le_refl _
  · exact Nat.le_succ _
theorem mAdd_b {q : (Nat → Int64) × (Nat → Int64) × Nat} {fr to by_ : Int64} {n : Nat} (h : q.2.2 ≤ n) : (mAdd q fr to by_).2.2 ≤ n + 1 := Nat.le_trans (mAdd_le q fr to by_) (by omega)
/-- all moments are fractions from 0 on -/
def mGood (q : (Nat → Int64) × (Nat → Int64) × Nat) : Prop := ∀ j, j < q.2.2 → 0 ≤ q.1 j ∧ 0 < q.2.1 j
theorem mI_good : ∀ (q : Nat) (gu gl : Nat → Int64) (u l_ : Int64), (∀ j, j < q → 0 ≤ gu j ∧ 0 < gl j) → 0 ≤ u → 0 < l_ → ∀ j, j < q + 1 → 0 ≤ mIU q gu gl u l_ j ∧ 0 < mIL q gu gl u l_ j
  | 0, gu, gl, u, l_, _, hu, hl, j, hj => by
    obtain rfl : j = 0 := by omega
    rw [mIU, mIL, pk_uLs, pk_uLs]; exact ⟨hu, hl⟩
  | q + 1, gu, gl, u, l_, h, hu, hl, j, hj => by
    rw [mIU, mIL]
    by_cases hc : u * gl q < gu q * l_
    · rw [if_pos hc, if_pos hc]
      rcases Nat.lt_or_ge j (q + 1) with h1 | h1
      · exact mI_good q _ _ u l_ (fun i hi => by rw [pk_uLn (by omega), pk_uLn (by omega)]; exact h i (by omega)) hu hl j h1
      · obtain rfl : j = q + 1 := by omega
        rw [mIU_out q _ _ _ _ _ (by omega), mIL_out q _ _ _ _ _ (by omega), pk_uLs, pk_uLs]; exact h q (by omega)
    · rw [if_neg hc, if_neg hc]
      rcases Nat.lt_or_ge j (q + 1) with h1 | h1
      · rw [pk_uLn (by omega), pk_uLn (by omega)]; exact h j h1
      · obtain rfl : j = q + 1 := by omega
        rw [pk_uLs, pk_uLs]; exact ⟨hu, hl⟩
theorem mAdd_good {q : (Nat → Int64) × (Nat → Int64) × Nat} {fr to by_ : Int64} (h : mGood q) : mGood (mAdd q fr to by_) := by
  unfold mAdd; split
  · next z =>
    obtain ⟨z1, z2, z3⟩ := pB_iff.mp z
    exact mI_good q.2.2 q.1 q.2.1 _ _ h z2 (Int64.lt_of_le_of_ne (Int64.le_trans z2 z3) (fun w => z1 w.symm))
  · exact h
set_option maxHeartbeats 4000000 in
set_option maxRecDepth 100000 in
theorem tX5_add (l : Launch) (dC : Nat → ClassId) (dI : Nat → Nat → Nat) (cJ cI cZ : ClassId) (om cd ns apx apy act nb asd amv asl apl asw nw aor nc aon atw aup alw : Nat) (mx my up lo rx ry : Int64) (q : (Nat → Int64) × (Nat → Int64) × Nat) (fr to by_ : Int64) (hq : q.2.2 < 12) : MMv l yX5_add wsX5_add { frames := 0, cells := 0, slots := 0, locals := 0 } [.ref om, .long fr, .long to, .long by_] (dC, dI) [(om, .inr (5, [.int (nI cd), .int (nI ns), .ref apx, .ref apy, .ref act, .int (nI nb), .ref asd, .ref amv, .ref asl, .ref apl, .ref asw, .int (nI nw), .ref aor, .int (nI nc), .ref aon, .ref atw, .long mx, .long my, .ref aup, .ref alw, .int (nI q.2.2), .long up, .long lo, .long rx, .long ry])), (aup, .inl (cJ, 12, .inr (.inl q.1))), (alw, .inl (cJ, 12, .inr (.inl q.2.1)))] [(om, .inr (5, [.int (nI cd), .int (nI ns), .ref apx, .ref apy, .ref act, .int (nI nb), .ref asd, .ref amv, .ref asl, .ref apl, .ref asw, .int (nI nw), .ref aor, .int (nI nc), .ref aon, .ref atw, .long mx, .long my, .ref aup, .ref alw, .int (nI ((mAdd q fr to by_).2.2)), .long up, .long lo, .long rx, .long ry])), (aup, .inl (cJ, 12, .inr (.inl (mAdd q fr to by_).1))), (alw, .inl (cJ, 12, .inr (.inl (mAdd q fr to by_).2.1)))] [(cJ, .long), (cI, .int), (cZ, .boolean)] := by
  intro sz
  refine kOf (cc := cX5_add) (maxL := 12) (ret := none) (by decide) rfl (Nat.le_of_ble_eq_true rfl) ?_
  intro p e s m below meth c hx hb hr hml hts hown hlocks hB ls hl
  obtain ⟨hsz, hP, hK, hD0⟩ := hB
  subst hsz
  have hD := hD0.self (sz := s.heap.size)
  generalize hAe : va_A [(om, .inr (5, [.int (nI cd), .int (nI ns), .ref apx, .ref apy, .ref act, .int (nI nb), .ref asd, .ref amv, .ref asl, .ref apl, .ref asw, .int (nI nw), .ref aor, .int (nI nc), .ref aon, .ref atw, .long mx, .long my, .ref aup, .ref alw, .int (nI q.2.2), .long up, .long lo, .long rx, .long ry])), (aup, .inl (cJ, 12, .inr (.inl q.1))), (alw, .inl (cJ, 12, .inr (.inl q.2.1)))] s.heap.size = A at hD ⊢
  have hA : ∀ q : Nat, s.heap.size ≤ q → A q := fun q h => by rw [← hAe]; exact Or.inr h
  have hS : va_S A s.heap s.heap [] := va_S.rf
  have hl : lv_has ls 12 [(0, .ref om), (1, .long fr), (3, .long to), (5, .long by_)] := hl
  have hi5 : ∀ w ∈ u_ws RX5 TX5 25, w ∈ wsX5_add := by decide +kernel
  have f45 := hts (.fieldLink RX5 45 "SweptBoxesModel" "ups" "[J") (by decide +kernel)
  have f48 := hts (.fieldLink RX5 48 "SweptBoxesModel" "lows" "[J") (by decide +kernel)
  have f135 := hts (.fieldLink RX5 135 "SweptBoxesModel" "moments" "I") (by decide +kernel)
  refine lv_lload hx hb dX5_add_0 (lv_at hl 3 rfl) ?_
  refine lv_lconst (v := 0) hx hb dX5_add_2 (by decide) ?_
  refine W.lcmp hx hb dX5_add_3 ?_
  refine lv_if_ge (tgt := 13) hx hb dX5_add_4 (by decide) (fun c4 => ?_) (fun c4 => ?_)
  · rw [lg_cmp_ge] at c4
    refine lv_lload_n hx hb dX5_add_13 rfl (lv_at hl 2 rfl) ?_
    refine lv_lload_n hx hb dX5_add_14 rfl (lv_at hl 1 rfl) ?_
    refine lv_lsub hx hb dX5_add_15 ?_
    refine lv_lstore (lv' := [(7, .long (to - fr)), (0, .ref om), (1, .long fr), (3, .long to), (5, .long by_)]) hx hb dX5_add_16 hl (by decide) rfl (fun ls hl => ?_)
    refine lv_lload hx hb dX5_add_18 (lv_at hl 4 rfl) ?_
    refine lv_lconst (v := 0) hx hb dX5_add_20 (by decide) ?_
    refine W.lcmp hx hb dX5_add_21 ?_
    refine lv_if_ge (tgt := 31) hx hb dX5_add_22 (by decide) (fun c22 => ?_) (fun c22 => ?_)
    · rw [lg_cmp_ge] at c22
      refine lv_lload hx hb dX5_add_31 (lv_at hl 4 rfl) ?_
      refine lv_lstore (lv' := [(9, .long by_), (7, .long (to - fr)), (0, .ref om), (1, .long fr), (3, .long to), (5, .long by_)]) hx hb dX5_add_33 hl (by decide) rfl (fun ls hl => ?_)
      refine lv_lload hx hb dX5_add_35 (lv_at hl 0 rfl) ?_
      refine lv_lconst (v := 0) hx hb dX5_add_37 (by decide) ?_
      refine W.lcmp hx hb dX5_add_38 ?_
      refine lv_if_eq (tgt := 57) hx hb dX5_add_39 (by decide) (fun c39 => ?_) (fun c39 => ?_)
      · rw [lg_cmp_eq] at c39
        have hE := mAdd_n (q := q) (show mAu_ fr to by_ = (to - fr) from by unfold mAu_; rw [if_neg (Int64.not_lt.mpr c4)]) (show mAl_ by_ = by_ from by unfold mAl_; rw [if_neg (Int64.not_lt.mpr c4)]) (by first | exact Or.inl c39 | exact Or.inr (Or.inl c46) | exact Or.inr (Or.inr c54))
        have hq0 : (nI ((mAdd q fr to by_).2.2)) = (nI q.2.2) := (by rw [hE])
        have hq1 : (mAdd q fr to by_).2.1 = q.2.1 := (by rw [hE])
        have hq2 : (mAdd q fr to by_).1 = q.1 := (by rw [hE])
        have hw : ([(om, .inr (5, [.int (nI cd), .int (nI ns), .ref apx, .ref apy, .ref act, .int (nI nb), .ref asd, .ref amv, .ref asl, .ref apl, .ref asw, .int (nI nw), .ref aor, .int (nI nc), .ref aon, .ref atw, .long mx, .long my, .ref aup, .ref alw, .int (nI q.2.2), .long up, .long lo, .long rx, .long ry])), (aup, .inl (cJ, 12, .inr (.inl q.1))), (alw, .inl (cJ, 12, .inr (.inl q.2.1)))] : va_W) = [(om, .inr (5, [.int (nI cd), .int (nI ns), .ref apx, .ref apy, .ref act, .int (nI nb), .ref asd, .ref amv, .ref asl, .ref apl, .ref asw, .int (nI nw), .ref aor, .int (nI nc), .ref aon, .ref atw, .long mx, .long my, .ref aup, .ref alw, .int (nI ((mAdd q fr to by_).2.2)), .long up, .long lo, .long rx, .long ry])), (aup, .inl (cJ, 12, .inr (.inl (mAdd q fr to by_).1))), (alw, .inl (cJ, 12, .inr (.inl (mAdd q fr to by_).2.1)))] := by rw [hq0, hq1, hq2]
        rw [hw] at hP hD
        exact kEv hx hb hr hlocks hP hK hD hS dX5_add_57
      · rw [lg_cmp_eq] at c39
        refine lv_lload hx hb dX5_add_42 (lv_at hl 1 rfl) ?_
        refine lv_lconst (v := 0) hx hb dX5_add_44 (by decide) ?_
        refine W.lcmp hx hb dX5_add_45 ?_
        refine lv_if_lt (tgt := 57) hx hb dX5_add_46 (by decide) (fun c46 => ?_) (fun c46 => ?_)
        · rw [lg_cmp_lt] at c46
          have hE := mAdd_n (q := q) (show mAu_ fr to by_ = (to - fr) from by unfold mAu_; rw [if_neg (Int64.not_lt.mpr c4)]) (show mAl_ by_ = by_ from by unfold mAl_; rw [if_neg (Int64.not_lt.mpr c4)]) (by first | exact Or.inl c39 | exact Or.inr (Or.inl c46) | exact Or.inr (Or.inr c54))
          have hq0 : (nI ((mAdd q fr to by_).2.2)) = (nI q.2.2) := (by rw [hE])
          have hq1 : (mAdd q fr to by_).2.1 = q.2.1 := (by rw [hE])
          have hq2 : (mAdd q fr to by_).1 = q.1 := (by rw [hE])
          have hw : ([(om, .inr (5, [.int (nI cd), .int (nI ns), .ref apx, .ref apy, .ref act, .int (nI nb), .ref asd, .ref amv, .ref asl, .ref apl, .ref asw, .int (nI nw), .ref aor, .int (nI nc), .ref aon, .ref atw, .long mx, .long my, .ref aup, .ref alw, .int (nI q.2.2), .long up, .long lo, .long rx, .long ry])), (aup, .inl (cJ, 12, .inr (.inl q.1))), (alw, .inl (cJ, 12, .inr (.inl q.2.1)))] : va_W) = [(om, .inr (5, [.int (nI cd), .int (nI ns), .ref apx, .ref apy, .ref act, .int (nI nb), .ref asd, .ref amv, .ref asl, .ref apl, .ref asw, .int (nI nw), .ref aor, .int (nI nc), .ref aon, .ref atw, .long mx, .long my, .ref aup, .ref alw, .int (nI ((mAdd q fr to by_).2.2)), .long up, .long lo, .long rx, .long ry])), (aup, .inl (cJ, 12, .inr (.inl (mAdd q fr to by_).1))), (alw, .inl (cJ, 12, .inr (.inl (mAdd q fr to by_).2.1)))] := by rw [hq0, hq1, hq2]
          rw [hw] at hP hD
          exact kEv hx hb hr hlocks hP hK hD hS dX5_add_57
        · rw [lg_cmp_lt, Int64.not_lt] at c46
          refine lv_lload hx hb dX5_add_49 (lv_at hl 1 rfl) ?_
          refine lv_lload hx hb dX5_add_51 (lv_at hl 0 rfl) ?_
          refine W.lcmp hx hb dX5_add_53 ?_
          refine lv_if_le (tgt := 58) hx hb dX5_add_54 (by decide) (fun c54 => ?_) (fun c54 => ?_)
          · rw [lg_cmp_le] at c54
            refine lv_aload_n hx hb dX5_add_58 rfl (lv_at hl 2 rfl) ?_
            refine va_get (D := (dC, dI)) (ci := 5) (v := .int (nI q.2.2)) (C := RX5) (T := TX5) (N := 25) hx hb hts hi5 hown hK hP 0 rfl rfl 20 (by decide) f135 (fun _ h9 => h9) rfl dX5_add_59 ?_
            refine lv_istore (lv' := [(11, .int (nI q.2.2)), (9, .long by_), (7, .long (to - fr)), (0, .ref om), (1, .long fr), (3, .long to), (5, .long by_)]) hx hb dX5_add_62 hl (by decide) rfl (fun ls hl => ?_)
            refine kLoop (σ := Nat × (Nat → Int64) × (Nat → Int64)) (fun xz H locs ls => match xz with | (pl, gu, gl) => (va_P (dC, dI) vwCl [(om, .inr (5, [.int (nI cd), .int (nI ns), .ref apx, .ref apy, .ref act, .int (nI nb), .ref asd, .ref amv, .ref asl, .ref apl, .ref asw, .int (nI nw), .ref aor, .int (nI nc), .ref aon, .ref atw, .long mx, .long my, .ref aup, .ref alw, .int (nI q.2.2), .long up, .long lo, .long rx, .long ry])), (aup, .inl (cJ, 12, .inr (.inl gu))), (alw, .inl (cJ, 12, .inr (.inl gl)))] H) ∧ (va_D A [(om, .inr (5, [.int (nI cd), .int (nI ns), .ref apx, .ref apy, .ref act, .int (nI nb), .ref asd, .ref amv, .ref asl, .ref apl, .ref asw, .int (nI nw), .ref aor, .int (nI nc), .ref aon, .ref atw, .long mx, .long my, .ref aup, .ref alw, .int (nI q.2.2), .long up, .long lo, .long rx, .long ry])), (aup, .inl (cJ, 12, .inr (.inl gu))), (alw, .inl (cJ, 12, .inr (.inl gl)))]) ∧ (va_S A s.heap H locs) ∧ (lv_has ls 12 [(0, .ref om), (7, .long (to - fr)), (9, .long by_), (11, .int (nI pl))]) ∧ (pl ≤ q.2.2 ∧ mIU pl gu gl (to - fr) by_ = mIU q.2.2 q.1 q.2.1 (to - fr) by_ ∧ mIL pl gu gl (to - fr) by_ = mIL q.2.2 q.1 q.2.1 (to - fr) by_)) (fun xz => match xz with | (pl, gu, gl) => pl) ?_ (q.2.2, q.1, q.2.1) ?_
            · rintro ⟨pl, gu, gl⟩ H locs ls hI ih64
              obtain ⟨hP, hD, hS, hl, hi64_⟩ := hI
              obtain ⟨hle, hX, hY⟩ := hi64_
              refine lv_iload hx hb dX5_add_64 (lv_at hl 3 rfl) ?_
              refine lv_if_le (tgt := 135) hx hb dX5_add_66 (by decide) (fun c66 => ?_) (fun c66 => ?_)
              · rw [← nI_0, nI_leI (by omega) (by omega)] at c66
                refine lv_aload_n hx hb dX5_add_135 rfl (lv_at hl 0 rfl) ?_
                refine va_get (D := (dC, dI)) (ci := 5) (v := .ref aup) (C := RX5) (T := TX5) (N := 25) hx hb hts hi5 hown hK hP 0 rfl rfl 18 (by decide) f45 (fun _ h9 => h9) rfl dX5_add_136 ?_
                refine lv_iload hx hb dX5_add_139 (lv_at hl 3 rfl) ?_
                refine lv_lload hx hb dX5_add_141 (lv_at hl 1 rfl) ?_
                refine va_last hx hb hK hP hD hS 1 0 rfl rfl (vp_in_nI (show pl < 12 by omega) (by omega)) dX5_add_143 (fun H locs hP hD hS => ?_)
                rw [show (nI pl).toNatClampNeg = pl from nI_clamp (show pl < 2 ^ 31 by omega)] at hP hD
                have hP : va_P (dC, dI) vwCl [(om, .inr (5, [.int (nI cd), .int (nI ns), .ref apx, .ref apy, .ref act, .int (nI nb), .ref asd, .ref amv, .ref asl, .ref apl, .ref asw, .int (nI nw), .ref aor, .int (nI nc), .ref aon, .ref atw, .long mx, .long my, .ref aup, .ref alw, .int (nI q.2.2), .long up, .long lo, .long rx, .long ry])), (aup, .inl (cJ, 12, .inr (.inl (vp_updL gu pl (to - fr))))), (alw, .inl (cJ, 12, .inr (.inl gl)))] H := hP
                have hD : va_D A [(om, .inr (5, [.int (nI cd), .int (nI ns), .ref apx, .ref apy, .ref act, .int (nI nb), .ref asd, .ref amv, .ref asl, .ref apl, .ref asw, .int (nI nw), .ref aor, .int (nI nc), .ref aon, .ref atw, .long mx, .long my, .ref aup, .ref alw, .int (nI q.2.2), .long up, .long lo, .long rx, .long ry])), (aup, .inl (cJ, 12, .inr (.inl (vp_updL gu pl (to - fr))))), (alw, .inl (cJ, 12, .inr (.inl gl)))] := hD
                refine lv_aload_n hx hb dX5_add_144 rfl (lv_at hl 0 rfl) ?_
                refine va_get (D := (dC, dI)) (ci := 5) (v := .ref alw) (C := RX5) (T := TX5) (N := 25) hx hb hts hi5 hown hK hP 0 rfl rfl 19 (by decide) f48 (fun _ h9 => h9) rfl dX5_add_145 ?_
                refine lv_iload hx hb dX5_add_148 (lv_at hl 3 rfl) ?_
                refine lv_lload hx hb dX5_add_150 (lv_at hl 2 rfl) ?_
                refine va_last hx hb hK hP hD hS 2 0 rfl rfl (vp_in_nI (show pl < 12 by omega) (by omega)) dX5_add_152 (fun H locs hP hD hS => ?_)
                rw [show (nI pl).toNatClampNeg = pl from nI_clamp (show pl < 2 ^ 31 by omega)] at hP hD
                have hP : va_P (dC, dI) vwCl [(om, .inr (5, [.int (nI cd), .int (nI ns), .ref apx, .ref apy, .ref act, .int (nI nb), .ref asd, .ref amv, .ref asl, .ref apl, .ref asw, .int (nI nw), .ref aor, .int (nI nc), .ref aon, .ref atw, .long mx, .long my, .ref aup, .ref alw, .int (nI q.2.2), .long up, .long lo, .long rx, .long ry])), (aup, .inl (cJ, 12, .inr (.inl (vp_updL gu pl (to - fr))))), (alw, .inl (cJ, 12, .inr (.inl (vp_updL gl pl by_))))] H := hP
                have hD : va_D A [(om, .inr (5, [.int (nI cd), .int (nI ns), .ref apx, .ref apy, .ref act, .int (nI nb), .ref asd, .ref amv, .ref asl, .ref apl, .ref asw, .int (nI nw), .ref aor, .int (nI nc), .ref aon, .ref atw, .long mx, .long my, .ref aup, .ref alw, .int (nI q.2.2), .long up, .long lo, .long rx, .long ry])), (aup, .inl (cJ, 12, .inr (.inl (vp_updL gu pl (to - fr))))), (alw, .inl (cJ, 12, .inr (.inl (vp_updL gl pl by_))))] := hD
                refine lv_aload_n hx hb dX5_add_153 rfl (lv_at hl 0 rfl) ?_
                refine lv_dup hx hb dX5_add_154 rfl ?_
                refine va_get (D := (dC, dI)) (ci := 5) (v := .int (nI q.2.2)) (C := RX5) (T := TX5) (N := 25) hx hb hts hi5 hown hK hP 0 rfl rfl 20 (by decide) f135 (fun _ h9 => h9) rfl dX5_add_155 ?_
                refine lv_iconst (v := (nI 1)) hx hb dX5_add_158 (by decide) ?_
                refine lv_iadd hx hb dX5_add_159 ?_
                rw [show (nI q.2.2) + (nI 1) = (nI (q.2.2 + 1)) from nI_add q.2.2 1]
                refine va_put (D := (dC, dI)) (ci := 5) (v := .int (nI (q.2.2 + 1))) (ty := .int) (C := RX5) (T := TX5) (N := 25) hx hb hts hi5 tyX5 tyX5_ok nmX5 hown hK hP hD hS 0 rfl rfl 20 (by decide) f135 (fun _ h9 => h9) rfl (by decide +kernel) rfl rfl (Nat.le_of_ble_eq_true rfl) dX5_add_160 (fun H locs hP hD hS => ?_)
                have hP : va_P (dC, dI) vwCl [(om, .inr (5, [.int (nI cd), .int (nI ns), .ref apx, .ref apy, .ref act, .int (nI nb), .ref asd, .ref amv, .ref asl, .ref apl, .ref asw, .int (nI nw), .ref aor, .int (nI nc), .ref aon, .ref atw, .long mx, .long my, .ref aup, .ref alw, .int (nI (q.2.2 + 1)), .long up, .long lo, .long rx, .long ry])), (aup, .inl (cJ, 12, .inr (.inl (vp_updL gu pl (to - fr))))), (alw, .inl (cJ, 12, .inr (.inl (vp_updL gl pl by_))))] H := hP
                have hD : va_D A [(om, .inr (5, [.int (nI cd), .int (nI ns), .ref apx, .ref apy, .ref act, .int (nI nb), .ref asd, .ref amv, .ref asl, .ref apl, .ref asw, .int (nI nw), .ref aor, .int (nI nc), .ref aon, .ref atw, .long mx, .long my, .ref aup, .ref alw, .int (nI (q.2.2 + 1)), .long up, .long lo, .long rx, .long ry])), (aup, .inl (cJ, 12, .inr (.inl (vp_updL gu pl (to - fr))))), (alw, .inl (cJ, 12, .inr (.inl (vp_updL gl pl by_))))] := hD
                have hE := mAdd_y (q := q) (show mAu_ fr to by_ = (to - fr) from by unfold mAu_; rw [if_neg (Int64.not_lt.mpr c4)]) (show mAl_ by_ = by_ from by unfold mAl_; rw [if_neg (Int64.not_lt.mpr c4)]) c39 c46 c54
                rw [← hX, ← hY, mIU_e (by first | exact Or.inl c66 | exact Or.inr c94), mIL_e (by first | exact Or.inl c66 | exact Or.inr c94)] at hE
                have hq0 : (nI ((mAdd q fr to by_).2.2)) = (nI (q.2.2 + 1)) := (by rw [hE])
                have hq1 : (mAdd q fr to by_).2.1 = (vp_updL gl pl by_) := (by rw [hE])
                have hq2 : (mAdd q fr to by_).1 = (vp_updL gu pl (to - fr)) := (by rw [hE])
                have hw : ([(om, .inr (5, [.int (nI cd), .int (nI ns), .ref apx, .ref apy, .ref act, .int (nI nb), .ref asd, .ref amv, .ref asl, .ref apl, .ref asw, .int (nI nw), .ref aor, .int (nI nc), .ref aon, .ref atw, .long mx, .long my, .ref aup, .ref alw, .int (nI (q.2.2 + 1)), .long up, .long lo, .long rx, .long ry])), (aup, .inl (cJ, 12, .inr (.inl (vp_updL gu pl (to - fr))))), (alw, .inl (cJ, 12, .inr (.inl (vp_updL gl pl by_))))] : va_W) = [(om, .inr (5, [.int (nI cd), .int (nI ns), .ref apx, .ref apy, .ref act, .int (nI nb), .ref asd, .ref amv, .ref asl, .ref apl, .ref asw, .int (nI nw), .ref aor, .int (nI nc), .ref aon, .ref atw, .long mx, .long my, .ref aup, .ref alw, .int (nI ((mAdd q fr to by_).2.2)), .long up, .long lo, .long rx, .long ry])), (aup, .inl (cJ, 12, .inr (.inl (mAdd q fr to by_).1))), (alw, .inl (cJ, 12, .inr (.inl (mAdd q fr to by_).2.1)))] := by rw [hq0, hq1, hq2]
                rw [hw] at hP hD
                exact kEv hx hb hr hlocks hP hK hD hS dX5_add_163
              · rw [← nI_0, nI_leI (by omega) (by omega), Nat.not_le] at c66
                refine lv_aload_n hx hb dX5_add_69 rfl (lv_at hl 0 rfl) ?_
                refine va_get (D := (dC, dI)) (ci := 5) (v := .ref aup) (C := RX5) (T := TX5) (N := 25) hx hb hts hi5 hown hK hP 0 rfl rfl 18 (by decide) f45 (fun _ h9 => h9) rfl dX5_add_70 ?_
                refine lv_iload hx hb dX5_add_73 (lv_at hl 3 rfl) ?_
                refine lv_iconst (v := (nI 1)) hx hb dX5_add_75 (by decide) ?_
                refine lv_isub hx hb dX5_add_76 ?_
                rw [show (nI pl) - (nI 1) = (nI (pl - 1)) from pk_sub (show 1 ≤ pl by omega)]
                refine va_lald hx hb hK hP 1 0 rfl rfl (vp_in_nI (show (pl - 1) < 12 by omega) (by omega)) dX5_add_77 ?_
                rw [show (nI (pl - 1)).toNatClampNeg = (pl - 1) from nI_clamp (show (pl - 1) < 2 ^ 31 by omega)]
                refine lv_lload hx hb dX5_add_78 (lv_at hl 2 rfl) ?_
                refine lv_lmul hx hb dX5_add_80 ?_
                refine lv_lload hx hb dX5_add_81 (lv_at hl 1 rfl) ?_
                refine lv_aload_n hx hb dX5_add_83 rfl (lv_at hl 0 rfl) ?_
                refine va_get (D := (dC, dI)) (ci := 5) (v := .ref alw) (C := RX5) (T := TX5) (N := 25) hx hb hts hi5 hown hK hP 0 rfl rfl 19 (by decide) f48 (fun _ h9 => h9) rfl dX5_add_84 ?_
                refine lv_iload hx hb dX5_add_87 (lv_at hl 3 rfl) ?_
                refine lv_iconst (v := (nI 1)) hx hb dX5_add_89 (by decide) ?_
                refine lv_isub hx hb dX5_add_90 ?_
                rw [show (nI pl) - (nI 1) = (nI (pl - 1)) from pk_sub (show 1 ≤ pl by omega)]
                refine va_lald hx hb hK hP 2 0 rfl rfl (vp_in_nI (show (pl - 1) < 12 by omega) (by omega)) dX5_add_91 ?_
                rw [show (nI (pl - 1)).toNatClampNeg = (pl - 1) from nI_clamp (show (pl - 1) < 2 ^ 31 by omega)]
                refine lv_lmul hx hb dX5_add_92 ?_
                refine W.lcmp hx hb dX5_add_93 ?_
                refine lv_if_le (tgt := 135) hx hb dX5_add_94 (by decide) (fun c94 => ?_) (fun c94 => ?_)
                · rw [lg_cmp_le] at c94
                  refine lv_aload_n hx hb dX5_add_135 rfl (lv_at hl 0 rfl) ?_
                  refine va_get (D := (dC, dI)) (ci := 5) (v := .ref aup) (C := RX5) (T := TX5) (N := 25) hx hb hts hi5 hown hK hP 0 rfl rfl 18 (by decide) f45 (fun _ h9 => h9) rfl dX5_add_136 ?_
                  refine lv_iload hx hb dX5_add_139 (lv_at hl 3 rfl) ?_
                  refine lv_lload hx hb dX5_add_141 (lv_at hl 1 rfl) ?_
                  refine va_last hx hb hK hP hD hS 1 0 rfl rfl (vp_in_nI (show pl < 12 by omega) (by omega)) dX5_add_143 (fun H locs hP hD hS => ?_)
                  rw [show (nI pl).toNatClampNeg = pl from nI_clamp (show pl < 2 ^ 31 by omega)] at hP hD
                  have hP : va_P (dC, dI) vwCl [(om, .inr (5, [.int (nI cd), .int (nI ns), .ref apx, .ref apy, .ref act, .int (nI nb), .ref asd, .ref amv, .ref asl, .ref apl, .ref asw, .int (nI nw), .ref aor, .int (nI nc), .ref aon, .ref atw, .long mx, .long my, .ref aup, .ref alw, .int (nI q.2.2), .long up, .long lo, .long rx, .long ry])), (aup, .inl (cJ, 12, .inr (.inl (vp_updL gu pl (to - fr))))), (alw, .inl (cJ, 12, .inr (.inl gl)))] H := hP
                  have hD : va_D A [(om, .inr (5, [.int (nI cd), .int (nI ns), .ref apx, .ref apy, .ref act, .int (nI nb), .ref asd, .ref amv, .ref asl, .ref apl, .ref asw, .int (nI nw), .ref aor, .int (nI nc), .ref aon, .ref atw, .long mx, .long my, .ref aup, .ref alw, .int (nI q.2.2), .long up, .long lo, .long rx, .long ry])), (aup, .inl (cJ, 12, .inr (.inl (vp_updL gu pl (to - fr))))), (alw, .inl (cJ, 12, .inr (.inl gl)))] := hD
                  refine lv_aload_n hx hb dX5_add_144 rfl (lv_at hl 0 rfl) ?_
                  refine va_get (D := (dC, dI)) (ci := 5) (v := .ref alw) (C := RX5) (T := TX5) (N := 25) hx hb hts hi5 hown hK hP 0 rfl rfl 19 (by decide) f48 (fun _ h9 => h9) rfl dX5_add_145 ?_
                  refine lv_iload hx hb dX5_add_148 (lv_at hl 3 rfl) ?_
                  refine lv_lload hx hb dX5_add_150 (lv_at hl 2 rfl) ?_
                  refine va_last hx hb hK hP hD hS 2 0 rfl rfl (vp_in_nI (show pl < 12 by omega) (by omega)) dX5_add_152 (fun H locs hP hD hS => ?_)
                  rw [show (nI pl).toNatClampNeg = pl from nI_clamp (show pl < 2 ^ 31 by omega)] at hP hD
                  have hP : va_P (dC, dI) vwCl [(om, .inr (5, [.int (nI cd), .int (nI ns), .ref apx, .ref apy, .ref act, .int (nI nb), .ref asd, .ref amv, .ref asl, .ref apl, .ref asw, .int (nI nw), .ref aor, .int (nI nc), .ref aon, .ref atw, .long mx, .long my, .ref aup, .ref alw, .int (nI q.2.2), .long up, .long lo, .long rx, .long ry])), (aup, .inl (cJ, 12, .inr (.inl (vp_updL gu pl (to - fr))))), (alw, .inl (cJ, 12, .inr (.inl (vp_updL gl pl by_))))] H := hP
                  have hD : va_D A [(om, .inr (5, [.int (nI cd), .int (nI ns), .ref apx, .ref apy, .ref act, .int (nI nb), .ref asd, .ref amv, .ref asl, .ref apl, .ref asw, .int (nI nw), .ref aor, .int (nI nc), .ref aon, .ref atw, .long mx, .long my, .ref aup, .ref alw, .int (nI q.2.2), .long up, .long lo, .long rx, .long ry])), (aup, .inl (cJ, 12, .inr (.inl (vp_updL gu pl (to - fr))))), (alw, .inl (cJ, 12, .inr (.inl (vp_updL gl pl by_))))] := hD
                  refine lv_aload_n hx hb dX5_add_153 rfl (lv_at hl 0 rfl) ?_
                  refine lv_dup hx hb dX5_add_154 rfl ?_
                  refine va_get (D := (dC, dI)) (ci := 5) (v := .int (nI q.2.2)) (C := RX5) (T := TX5) (N := 25) hx hb hts hi5 hown hK hP 0 rfl rfl 20 (by decide) f135 (fun _ h9 => h9) rfl dX5_add_155 ?_
                  refine lv_iconst (v := (nI 1)) hx hb dX5_add_158 (by decide) ?_
                  refine lv_iadd hx hb dX5_add_159 ?_
                  rw [show (nI q.2.2) + (nI 1) = (nI (q.2.2 + 1)) from nI_add q.2.2 1]
                  refine va_put (D := (dC, dI)) (ci := 5) (v := .int (nI (q.2.2 + 1))) (ty := .int) (C := RX5) (T := TX5) (N := 25) hx hb hts hi5 tyX5 tyX5_ok nmX5 hown hK hP hD hS 0 rfl rfl 20 (by decide) f135 (fun _ h9 => h9) rfl (by decide +kernel) rfl rfl (Nat.le_of_ble_eq_true rfl) dX5_add_160 (fun H locs hP hD hS => ?_)
                  have hP : va_P (dC, dI) vwCl [(om, .inr (5, [.int (nI cd), .int (nI ns), .ref apx, .ref apy, .ref act, .int (nI nb), .ref asd, .ref amv, .ref asl, .ref apl, .ref asw, .int (nI nw), .ref aor, .int (nI nc), .ref aon, .ref atw, .long mx, .long my, .ref aup, .ref alw, .int (nI (q.2.2 + 1)), .long up, .long lo, .long rx, .long ry])), (aup, .inl (cJ, 12, .inr (.inl (vp_updL gu pl (to - fr))))), (alw, .inl (cJ, 12, .inr (.inl (vp_updL gl pl by_))))] H := hP
                  have hD : va_D A [(om, .inr (5, [.int (nI cd), .int (nI ns), .ref apx, .ref apy, .ref act, .int (nI nb), .ref asd, .ref amv, .ref asl, .ref apl, .ref asw, .int (nI nw), .ref aor, .int (nI nc), .ref aon, .ref atw, .long mx, .long my, .ref aup, .ref alw, .int (nI (q.2.2 + 1)), .long up, .long lo, .long rx, .long ry])), (aup, .inl (cJ, 12, .inr (.inl (vp_updL gu pl (to - fr))))), (alw, .inl (cJ, 12, .inr (.inl (vp_updL gl pl by_))))] := hD
                  have hE := mAdd_y (q := q) (show mAu_ fr to by_ = (to - fr) from by unfold mAu_; rw [if_neg (Int64.not_lt.mpr c4)]) (show mAl_ by_ = by_ from by unfold mAl_; rw [if_neg (Int64.not_lt.mpr c4)]) c39 c46 c54
                  rw [← hX, ← hY, mIU_e (by first | exact Or.inl c66 | exact Or.inr c94), mIL_e (by first | exact Or.inl c66 | exact Or.inr c94)] at hE
                  have hq0 : (nI ((mAdd q fr to by_).2.2)) = (nI (q.2.2 + 1)) := (by rw [hE])
                  have hq1 : (mAdd q fr to by_).2.1 = (vp_updL gl pl by_) := (by rw [hE])
                  have hq2 : (mAdd q fr to by_).1 = (vp_updL gu pl (to - fr)) := (by rw [hE])
                  have hw : ([(om, .inr (5, [.int (nI cd), .int (nI ns), .ref apx, .ref apy, .ref act, .int (nI nb), .ref asd, .ref amv, .ref asl, .ref apl, .ref asw, .int (nI nw), .ref aor, .int (nI nc), .ref aon, .ref atw, .long mx, .long my, .ref aup, .ref alw, .int (nI (q.2.2 + 1)), .long up, .long lo, .long rx, .long ry])), (aup, .inl (cJ, 12, .inr (.inl (vp_updL gu pl (to - fr))))), (alw, .inl (cJ, 12, .inr (.inl (vp_updL gl pl by_))))] : va_W) = [(om, .inr (5, [.int (nI cd), .int (nI ns), .ref apx, .ref apy, .ref act, .int (nI nb), .ref asd, .ref amv, .ref asl, .ref apl, .ref asw, .int (nI nw), .ref aor, .int (nI nc), .ref aon, .ref atw, .long mx, .long my, .ref aup, .ref alw, .int (nI ((mAdd q fr to by_).2.2)), .long up, .long lo, .long rx, .long ry])), (aup, .inl (cJ, 12, .inr (.inl (mAdd q fr to by_).1))), (alw, .inl (cJ, 12, .inr (.inl (mAdd q fr to by_).2.1)))] := by rw [hq0, hq1, hq2]
                  rw [hw] at hP hD
                  exact kEv hx hb hr hlocks hP hK hD hS dX5_add_163
                · rw [lg_cmp_le, Int64.not_le] at c94
                  refine lv_aload_n hx hb dX5_add_97 rfl (lv_at hl 0 rfl) ?_
                  refine va_get (D := (dC, dI)) (ci := 5) (v := .ref aup) (C := RX5) (T := TX5) (N := 25) hx hb hts hi5 hown hK hP 0 rfl rfl 18 (by decide) f45 (fun _ h9 => h9) rfl dX5_add_98 ?_
                  refine lv_iload hx hb dX5_add_101 (lv_at hl 3 rfl) ?_
                  refine lv_aload_n hx hb dX5_add_103 rfl (lv_at hl 0 rfl) ?_
                  refine va_get (D := (dC, dI)) (ci := 5) (v := .ref aup) (C := RX5) (T := TX5) (N := 25) hx hb hts hi5 hown hK hP 0 rfl rfl 18 (by decide) f45 (fun _ h9 => h9) rfl dX5_add_104 ?_
                  refine lv_iload hx hb dX5_add_107 (lv_at hl 3 rfl) ?_
                  refine lv_iconst (v := (nI 1)) hx hb dX5_add_109 (by decide) ?_
                  refine lv_isub hx hb dX5_add_110 ?_
                  rw [show (nI pl) - (nI 1) = (nI (pl - 1)) from pk_sub (show 1 ≤ pl by omega)]
                  refine va_lald hx hb hK hP 1 0 rfl rfl (vp_in_nI (show (pl - 1) < 12 by omega) (by omega)) dX5_add_111 ?_
                  rw [show (nI (pl - 1)).toNatClampNeg = (pl - 1) from nI_clamp (show (pl - 1) < 2 ^ 31 by omega)]
                  refine va_last hx hb hK hP hD hS 1 0 rfl rfl (vp_in_nI (show pl < 12 by omega) (by omega)) dX5_add_112 (fun H locs hP hD hS => ?_)
                  rw [show (nI pl).toNatClampNeg = pl from nI_clamp (show pl < 2 ^ 31 by omega)] at hP hD
                  have hP : va_P (dC, dI) vwCl [(om, .inr (5, [.int (nI cd), .int (nI ns), .ref apx, .ref apy, .ref act, .int (nI nb), .ref asd, .ref amv, .ref asl, .ref apl, .ref asw, .int (nI nw), .ref aor, .int (nI nc), .ref aon, .ref atw, .long mx, .long my, .ref aup, .ref alw, .int (nI q.2.2), .long up, .long lo, .long rx, .long ry])), (aup, .inl (cJ, 12, .inr (.inl (vp_updL gu pl (gu ((pl - 1))))))), (alw, .inl (cJ, 12, .inr (.inl gl)))] H := hP
                  have hD : va_D A [(om, .inr (5, [.int (nI cd), .int (nI ns), .ref apx, .ref apy, .ref act, .int (nI nb), .ref asd, .ref amv, .ref asl, .ref apl, .ref asw, .int (nI nw), .ref aor, .int (nI nc), .ref aon, .ref atw, .long mx, .long my, .ref aup, .ref alw, .int (nI q.2.2), .long up, .long lo, .long rx, .long ry])), (aup, .inl (cJ, 12, .inr (.inl (vp_updL gu pl (gu ((pl - 1))))))), (alw, .inl (cJ, 12, .inr (.inl gl)))] := hD
                  refine lv_aload_n hx hb dX5_add_113 rfl (lv_at hl 0 rfl) ?_
                  refine va_get (D := (dC, dI)) (ci := 5) (v := .ref alw) (C := RX5) (T := TX5) (N := 25) hx hb hts hi5 hown hK hP 0 rfl rfl 19 (by decide) f48 (fun _ h9 => h9) rfl dX5_add_114 ?_
                  refine lv_iload hx hb dX5_add_117 (lv_at hl 3 rfl) ?_
                  refine lv_aload_n hx hb dX5_add_119 rfl (lv_at hl 0 rfl) ?_
                  refine va_get (D := (dC, dI)) (ci := 5) (v := .ref alw) (C := RX5) (T := TX5) (N := 25) hx hb hts hi5 hown hK hP 0 rfl rfl 19 (by decide) f48 (fun _ h9 => h9) rfl dX5_add_120 ?_
                  refine lv_iload hx hb dX5_add_123 (lv_at hl 3 rfl) ?_
                  refine lv_iconst (v := (nI 1)) hx hb dX5_add_125 (by decide) ?_
                  refine lv_isub hx hb dX5_add_126 ?_
                  rw [show (nI pl) - (nI 1) = (nI (pl - 1)) from pk_sub (show 1 ≤ pl by omega)]
                  refine va_lald hx hb hK hP 2 0 rfl rfl (vp_in_nI (show (pl - 1) < 12 by omega) (by omega)) dX5_add_127 ?_
                  rw [show (nI (pl - 1)).toNatClampNeg = (pl - 1) from nI_clamp (show (pl - 1) < 2 ^ 31 by omega)]
                  refine va_last hx hb hK hP hD hS 2 0 rfl rfl (vp_in_nI (show pl < 12 by omega) (by omega)) dX5_add_128 (fun H locs hP hD hS => ?_)
                  rw [show (nI pl).toNatClampNeg = pl from nI_clamp (show pl < 2 ^ 31 by omega)] at hP hD
                  have hP : va_P (dC, dI) vwCl [(om, .inr (5, [.int (nI cd), .int (nI ns), .ref apx, .ref apy, .ref act, .int (nI nb), .ref asd, .ref amv, .ref asl, .ref apl, .ref asw, .int (nI nw), .ref aor, .int (nI nc), .ref aon, .ref atw, .long mx, .long my, .ref aup, .ref alw, .int (nI q.2.2), .long up, .long lo, .long rx, .long ry])), (aup, .inl (cJ, 12, .inr (.inl (vp_updL gu pl (gu ((pl - 1))))))), (alw, .inl (cJ, 12, .inr (.inl (vp_updL gl pl (gl ((pl - 1)))))))] H := hP
                  have hD : va_D A [(om, .inr (5, [.int (nI cd), .int (nI ns), .ref apx, .ref apy, .ref act, .int (nI nb), .ref asd, .ref amv, .ref asl, .ref apl, .ref asw, .int (nI nw), .ref aor, .int (nI nc), .ref aon, .ref atw, .long mx, .long my, .ref aup, .ref alw, .int (nI q.2.2), .long up, .long lo, .long rx, .long ry])), (aup, .inl (cJ, 12, .inr (.inl (vp_updL gu pl (gu ((pl - 1))))))), (alw, .inl (cJ, 12, .inr (.inl (vp_updL gl pl (gl ((pl - 1)))))))] := hD
                  refine lv_iinc (v := (nI (pl - 1))) (lv' := [(11, .int (nI (pl - 1))), (0, .ref om), (7, .long (to - fr)), (9, .long by_)]) hx hb dX5_add_129 hl (k := 3) rfl (sb_m1 (show 0 < pl by omega)) (by decide) rfl (fun ls hl => ?_)
                  refine lv_goto (tgt := 64) hx hb dX5_add_132 (by decide) ?_
                  exact ih64 (pl - 1, vp_updL gu pl (gu (pl - 1)), vp_updL gl pl (gl (pl - 1))) _ _ _ ⟨hP, hD, hS, lv_sub hl [1, 2, 3, 0] rfl, ⟨by omega, by rw [← hX, mIU_s c66 c94], by rw [← hY, mIL_s c66 c94]⟩⟩ (by simp only []; omega)
            · exact ⟨hP, hD, hS, lv_sub hl [3, 2, 1, 0] rfl, ⟨Nat.le_refl _, rfl, rfl⟩⟩
          · rw [lg_cmp_le, Int64.not_le] at c54
            have hE := mAdd_n (q := q) (show mAu_ fr to by_ = (to - fr) from by unfold mAu_; rw [if_neg (Int64.not_lt.mpr c4)]) (show mAl_ by_ = by_ from by unfold mAl_; rw [if_neg (Int64.not_lt.mpr c4)]) (by first | exact Or.inl c39 | exact Or.inr (Or.inl c46) | exact Or.inr (Or.inr c54))
            have hq0 : (nI ((mAdd q fr to by_).2.2)) = (nI q.2.2) := (by rw [hE])
            have hq1 : (mAdd q fr to by_).2.1 = q.2.1 := (by rw [hE])
            have hq2 : (mAdd q fr to by_).1 = q.1 := (by rw [hE])
            have hw : ([(om, .inr (5, [.int (nI cd), .int (nI ns), .ref apx, .ref apy, .ref act, .int (nI nb), .ref asd, .ref amv, .ref asl, .ref apl, .ref asw, .int (nI nw), .ref aor, .int (nI nc), .ref aon, .ref atw, .long mx, .long my, .ref aup, .ref alw, .int (nI q.2.2), .long up, .long lo, .long rx, .long ry])), (aup, .inl (cJ, 12, .inr (.inl q.1))), (alw, .inl (cJ, 12, .inr (.inl q.2.1)))] : va_W) = [(om, .inr (5, [.int (nI cd), .int (nI ns), .ref apx, .ref apy, .ref act, .int (nI nb), .ref asd, .ref amv, .ref asl, .ref apl, .ref asw, .int (nI nw), .ref aor, .int (nI nc), .ref aon, .ref atw, .long mx, .long my, .ref aup, .ref alw, .int (nI ((mAdd q fr to by_).2.2)), .long up, .long lo, .long rx, .long ry])), (aup, .inl (cJ, 12, .inr (.inl (mAdd q fr to by_).1))), (alw, .inl (cJ, 12, .inr (.inl (mAdd q fr to by_).2.1)))] := by rw [hq0, hq1, hq2]
            rw [hw] at hP hD
            exact kEv hx hb hr hlocks hP hK hD hS dX5_add_57
    · rw [lg_cmp_ge, Int64.not_le] at c22
      exfalso; (try simp only [Int64.lt_iff_toInt_lt, Int64.le_iff_toInt_le, ← Int64.toInt_inj] at c4 c22); omega
  · rw [lg_cmp_ge, Int64.not_le] at c4
    refine lv_lload_n hx hb dX5_add_7 rfl (lv_at hl 1 rfl) ?_
    refine lv_lload_n hx hb dX5_add_8 rfl (lv_at hl 2 rfl) ?_
    refine lv_lsub hx hb dX5_add_9 ?_
    refine lv_goto (tgt := 16) hx hb dX5_add_10 (by decide) ?_
    refine lv_lstore (lv' := [(7, .long (fr - to)), (0, .ref om), (1, .long fr), (3, .long to), (5, .long by_)]) hx hb dX5_add_16 hl (by decide) rfl (fun ls hl => ?_)
    refine lv_lload hx hb dX5_add_18 (lv_at hl 4 rfl) ?_
    refine lv_lconst (v := 0) hx hb dX5_add_20 (by decide) ?_
    refine W.lcmp hx hb dX5_add_21 ?_
    refine lv_if_ge (tgt := 31) hx hb dX5_add_22 (by decide) (fun c22 => ?_) (fun c22 => ?_)
    · rw [lg_cmp_ge] at c22
      exfalso; (try simp only [Int64.lt_iff_toInt_lt, Int64.le_iff_toInt_le, ← Int64.toInt_inj] at c4 c22); omega
    · rw [lg_cmp_ge, Int64.not_le] at c22
      refine lv_lload hx hb dX5_add_25 (lv_at hl 4 rfl) ?_
      refine lv_lneg hx hb dX5_add_27 ?_
      refine lv_goto (tgt := 33) hx hb dX5_add_28 (by decide) ?_
      refine lv_lstore (lv' := [(9, .long (-by_)), (7, .long (fr - to)), (0, .ref om), (1, .long fr), (3, .long to), (5, .long by_)]) hx hb dX5_add_33 hl (by decide) rfl (fun ls hl => ?_)
      refine lv_lload hx hb dX5_add_35 (lv_at hl 0 rfl) ?_
      refine lv_lconst (v := 0) hx hb dX5_add_37 (by decide) ?_
      refine W.lcmp hx hb dX5_add_38 ?_
      refine lv_if_eq (tgt := 57) hx hb dX5_add_39 (by decide) (fun c39 => ?_) (fun c39 => ?_)
      · rw [lg_cmp_eq] at c39
        have hE := mAdd_n (q := q) (show mAu_ fr to by_ = (fr - to) from by unfold mAu_; rw [if_pos c4]) (show mAl_ by_ = (-by_) from by unfold mAl_; rw [if_pos c4]) (by first | exact Or.inl c39 | exact Or.inr (Or.inl c46) | exact Or.inr (Or.inr c54))
        have hq0 : (nI ((mAdd q fr to by_).2.2)) = (nI q.2.2) := (by rw [hE])
        have hq1 : (mAdd q fr to by_).2.1 = q.2.1 := (by rw [hE])
        have hq2 : (mAdd q fr to by_).1 = q.1 := (by rw [hE])
        have hw : ([(om, .inr (5, [.int (nI cd), .int (nI ns), .ref apx, .ref apy, .ref act, .int (nI nb), .ref asd, .ref amv, .ref asl, .ref apl, .ref asw, .int (nI nw), .ref aor, .int (nI nc), .ref aon, .ref atw, .long mx, .long my, .ref aup, .ref alw, .int (nI q.2.2), .long up, .long lo, .long rx, .long ry])), (aup, .inl (cJ, 12, .inr (.inl q.1))), (alw, .inl (cJ, 12, .inr (.inl q.2.1)))] : va_W) = [(om, .inr (5, [.int (nI cd), .int (nI ns), .ref apx, .ref apy, .ref act, .int (nI nb), .ref asd, .ref amv, .ref asl, .ref apl, .ref asw, .int (nI nw), .ref aor, .int (nI nc), .ref aon, .ref atw, .long mx, .long my, .ref aup, .ref alw, .int (nI ((mAdd q fr to by_).2.2)), .long up, .long lo, .long rx, .long ry])), (aup, .inl (cJ, 12, .inr (.inl (mAdd q fr to by_).1))), (alw, .inl (cJ, 12, .inr (.inl (mAdd q fr to by_).2.1)))] := by rw [hq0, hq1, hq2]
        rw [hw] at hP hD
        exact kEv hx hb hr hlocks hP hK hD hS dX5_add_57
      · rw [lg_cmp_eq] at c39
        refine lv_lload hx hb dX5_add_42 (lv_at hl 1 rfl) ?_
        refine lv_lconst (v := 0) hx hb dX5_add_44 (by decide) ?_
        refine W.lcmp hx hb dX5_add_45 ?_
        refine lv_if_lt (tgt := 57) hx hb dX5_add_46 (by decide) (fun c46 => ?_) (fun c46 => ?_)
        · rw [lg_cmp_lt] at c46
          have hE := mAdd_n (q := q) (show mAu_ fr to by_ = (fr - to) from by unfold mAu_; rw [if_pos c4]) (show mAl_ by_ = (-by_) from by unfold mAl_; rw [if_pos c4]) (by first | exact Or.inl c39 | exact Or.inr (Or.inl c46) | exact Or.inr (Or.inr c54))
          have hq0 : (nI ((mAdd q fr to by_).2.2)) = (nI q.2.2) := (by rw [hE])
          have hq1 : (mAdd q fr to by_).2.1 = q.2.1 := (by rw [hE])
          have hq2 : (mAdd q fr to by_).1 = q.1 := (by rw [hE])
          have hw : ([(om, .inr (5, [.int (nI cd), .int (nI ns), .ref apx, .ref apy, .ref act, .int (nI nb), .ref asd, .ref amv, .ref asl, .ref apl, .ref asw, .int (nI nw), .ref aor, .int (nI nc), .ref aon, .ref atw, .long mx, .long my, .ref aup, .ref alw, .int (nI q.2.2), .long up, .long lo, .long rx, .long ry])), (aup, .inl (cJ, 12, .inr (.inl q.1))), (alw, .inl (cJ, 12, .inr (.inl q.2.1)))] : va_W) = [(om, .inr (5, [.int (nI cd), .int (nI ns), .ref apx, .ref apy, .ref act, .int (nI nb), .ref asd, .ref amv, .ref asl, .ref apl, .ref asw, .int (nI nw), .ref aor, .int (nI nc), .ref aon, .ref atw, .long mx, .long my, .ref aup, .ref alw, .int (nI ((mAdd q fr to by_).2.2)), .long up, .long lo, .long rx, .long ry])), (aup, .inl (cJ, 12, .inr (.inl (mAdd q fr to by_).1))), (alw, .inl (cJ, 12, .inr (.inl (mAdd q fr to by_).2.1)))] := by rw [hq0, hq1, hq2]
          rw [hw] at hP hD
          exact kEv hx hb hr hlocks hP hK hD hS dX5_add_57
        · rw [lg_cmp_lt, Int64.not_lt] at c46
          refine lv_lload hx hb dX5_add_49 (lv_at hl 1 rfl) ?_
          refine lv_lload hx hb dX5_add_51 (lv_at hl 0 rfl) ?_
          refine W.lcmp hx hb dX5_add_53 ?_
          refine lv_if_le (tgt := 58) hx hb dX5_add_54 (by decide) (fun c54 => ?_) (fun c54 => ?_)
          · rw [lg_cmp_le] at c54
            refine lv_aload_n hx hb dX5_add_58 rfl (lv_at hl 2 rfl) ?_
            refine va_get (D := (dC, dI)) (ci := 5) (v := .int (nI q.2.2)) (C := RX5) (T := TX5) (N := 25) hx hb hts hi5 hown hK hP 0 rfl rfl 20 (by decide) f135 (fun _ h9 => h9) rfl dX5_add_59 ?_
            refine lv_istore (lv' := [(11, .int (nI q.2.2)), (9, .long (-by_)), (7, .long (fr - to)), (0, .ref om), (1, .long fr), (3, .long to), (5, .long by_)]) hx hb dX5_add_62 hl (by decide) rfl (fun ls hl => ?_)
            refine kLoop (σ := Nat × (Nat → Int64) × (Nat → Int64)) (fun xz H locs ls => match xz with | (pl, gu, gl) => (va_P (dC, dI) vwCl [(om, .inr (5, [.int (nI cd), .int (nI ns), .ref apx, .ref apy, .ref act, .int (nI nb), .ref asd, .ref amv, .ref asl, .ref apl, .ref asw, .int (nI nw), .ref aor, .int (nI nc), .ref aon, .ref atw, .long mx, .long my, .ref aup, .ref alw, .int (nI q.2.2), .long up, .long lo, .long rx, .long ry])), (aup, .inl (cJ, 12, .inr (.inl gu))), (alw, .inl (cJ, 12, .inr (.inl gl)))] H) ∧ (va_D A [(om, .inr (5, [.int (nI cd), .int (nI ns), .ref apx, .ref apy, .ref act, .int (nI nb), .ref asd, .ref amv, .ref asl, .ref apl, .ref asw, .int (nI nw), .ref aor, .int (nI nc), .ref aon, .ref atw, .long mx, .long my, .ref aup, .ref alw, .int (nI q.2.2), .long up, .long lo, .long rx, .long ry])), (aup, .inl (cJ, 12, .inr (.inl gu))), (alw, .inl (cJ, 12, .inr (.inl gl)))]) ∧ (va_S A s.heap H locs) ∧ (lv_has ls 12 [(0, .ref om), (7, .long (fr - to)), (9, .long (-by_)), (11, .int (nI pl))]) ∧ (pl ≤ q.2.2 ∧ mIU pl gu gl (fr - to) (-by_) = mIU q.2.2 q.1 q.2.1 (fr - to) (-by_) ∧ mIL pl gu gl (fr - to) (-by_) = mIL q.2.2 q.1 q.2.1 (fr - to) (-by_))) (fun xz => match xz with | (pl, gu, gl) => pl) ?_ (q.2.2, q.1, q.2.1) ?_
            · rintro ⟨pl, gu, gl⟩ H locs ls hI ih64
              obtain ⟨hP, hD, hS, hl, hi64_⟩ := hI
              obtain ⟨hle, hX, hY⟩ := hi64_
              refine lv_iload hx hb dX5_add_64 (lv_at hl 3 rfl) ?_
              refine lv_if_le (tgt := 135) hx hb dX5_add_66 (by decide) (fun c66 => ?_) (fun c66 => ?_)
              · rw [← nI_0, nI_leI (by omega) (by omega)] at c66
                refine lv_aload_n hx hb dX5_add_135 rfl (lv_at hl 0 rfl) ?_
                refine va_get (D := (dC, dI)) (ci := 5) (v := .ref aup) (C := RX5) (T := TX5) (N := 25) hx hb hts hi5 hown hK hP 0 rfl rfl 18 (by decide) f45 (fun _ h9 => h9) rfl dX5_add_136 ?_
                refine lv_iload hx hb dX5_add_139 (lv_at hl 3 rfl) ?_
                refine lv_lload hx hb dX5_add_141 (lv_at hl 1 rfl) ?_
                refine va_last hx hb hK hP hD hS 1 0 rfl rfl (vp_in_nI (show pl < 12 by omega) (by omega)) dX5_add_143 (fun H locs hP hD hS => ?_)
                rw [show (nI pl).toNatClampNeg = pl from nI_clamp (show pl < 2 ^ 31 by omega)] at hP hD
                have hP : va_P (dC, dI) vwCl [(om, .inr (5, [.int (nI cd), .int (nI ns), .ref apx, .ref apy, .ref act, .int (nI nb), .ref asd, .ref amv, .ref asl, .ref apl, .ref asw, .int (nI nw), .ref aor, .int (nI nc), .ref aon, .ref atw, .long mx, .long my, .ref aup, .ref alw, .int (nI q.2.2), .long up, .long lo, .long rx, .long ry])), (aup, .inl (cJ, 12, .inr (.inl (vp_updL gu pl (fr - to))))), (alw, .inl (cJ, 12, .inr (.inl gl)))] H := hP
                have hD : va_D A [(om, .inr (5, [.int (nI cd), .int (nI ns), .ref apx, .ref apy, .ref act, .int (nI nb), .ref asd, .ref amv, .ref asl, .ref apl, .ref asw, .int (nI nw), .ref aor, .int (nI nc), .ref aon, .ref atw, .long mx, .long my, .ref aup, .ref alw, .int (nI q.2.2), .long up, .long lo, .long rx, .long ry])), (aup, .inl (cJ, 12, .inr (.inl (vp_updL gu pl (fr - to))))), (alw, .inl (cJ, 12, .inr (.inl gl)))] := hD
                refine lv_aload_n hx hb dX5_add_144 rfl (lv_at hl 0 rfl) ?_
                refine va_get (D := (dC, dI)) (ci := 5) (v := .ref alw) (C := RX5) (T := TX5) (N := 25) hx hb hts hi5 hown hK hP 0 rfl rfl 19 (by decide) f48 (fun _ h9 => h9) rfl dX5_add_145 ?_
                refine lv_iload hx hb dX5_add_148 (lv_at hl 3 rfl) ?_
                refine lv_lload hx hb dX5_add_150 (lv_at hl 2 rfl) ?_
                refine va_last hx hb hK hP hD hS 2 0 rfl rfl (vp_in_nI (show pl < 12 by omega) (by omega)) dX5_add_152 (fun H locs hP hD hS => ?_)
                rw [show (nI pl).toNatClampNeg = pl from nI_clamp (show pl < 2 ^ 31 by omega)] at hP hD
                have hP : va_P (dC, dI) vwCl [(om, .inr (5, [.int (nI cd), .int (nI ns), .ref apx, .ref apy, .ref act, .int (nI nb), .ref asd, .ref amv, .ref asl, .ref apl, .ref asw, .int (nI nw), .ref aor, .int (nI nc), .ref aon, .ref atw, .long mx, .long my, .ref aup, .ref alw, .int (nI q.2.2), .long up, .long lo, .long rx, .long ry])), (aup, .inl (cJ, 12, .inr (.inl (vp_updL gu pl (fr - to))))), (alw, .inl (cJ, 12, .inr (.inl (vp_updL gl pl (-by_)))))] H := hP
                have hD : va_D A [(om, .inr (5, [.int (nI cd), .int (nI ns), .ref apx, .ref apy, .ref act, .int (nI nb), .ref asd, .ref amv, .ref asl, .ref apl, .ref asw, .int (nI nw), .ref aor, .int (nI nc), .ref aon, .ref atw, .long mx, .long my, .ref aup, .ref alw, .int (nI q.2.2), .long up, .long lo, .long rx, .long ry])), (aup, .inl (cJ, 12, .inr (.inl (vp_updL gu pl (fr - to))))), (alw, .inl (cJ, 12, .inr (.inl (vp_updL gl pl (-by_)))))] := hD
                refine lv_aload_n hx hb dX5_add_153 rfl (lv_at hl 0 rfl) ?_
                refine lv_dup hx hb dX5_add_154 rfl ?_
                refine va_get (D := (dC, dI)) (ci := 5) (v := .int (nI q.2.2)) (C := RX5) (T := TX5) (N := 25) hx hb hts hi5 hown hK hP 0 rfl rfl 20 (by decide) f135 (fun _ h9 => h9) rfl dX5_add_155 ?_
                refine lv_iconst (v := (nI 1)) hx hb dX5_add_158 (by decide) ?_
                refine lv_iadd hx hb dX5_add_159 ?_
                rw [show (nI q.2.2) + (nI 1) = (nI (q.2.2 + 1)) from nI_add q.2.2 1]
                refine va_put (D := (dC, dI)) (ci := 5) (v := .int (nI (q.2.2 + 1))) (ty := .int) (C := RX5) (T := TX5) (N := 25) hx hb hts hi5 tyX5 tyX5_ok nmX5 hown hK hP hD hS 0 rfl rfl 20 (by decide) f135 (fun _ h9 => h9) rfl (by decide +kernel) rfl rfl (Nat.le_of_ble_eq_true rfl) dX5_add_160 (fun H locs hP hD hS => ?_)
                have hP : va_P (dC, dI) vwCl [(om, .inr (5, [.int (nI cd), .int (nI ns), .ref apx, .ref apy, .ref act, .int (nI nb), .ref asd, .ref amv, .ref asl, .ref apl, .ref asw, .int (nI nw), .ref aor, .int (nI nc), .ref aon, .ref atw, .long mx, .long my, .ref aup, .ref alw, .int (nI (q.2.2 + 1)), .long up, .long lo, .long rx, .long ry])), (aup, .inl (cJ, 12, .inr (.inl (vp_updL gu pl (fr - to))))), (alw, .inl (cJ, 12, .inr (.inl (vp_updL gl pl (-by_)))))] H := hP
                have hD : va_D A [(om, .inr (5, [.int (nI cd), .int (nI ns), .ref apx, .ref apy, .ref act, .int (nI nb), .ref asd, .ref amv, .ref asl, .ref apl, .ref asw, .int (nI nw), .ref aor, .int (nI nc), .ref aon, .ref atw, .long mx, .long my, .ref aup, .ref alw, .int (nI (q.2.2 + 1)), .long up, .long lo, .long rx, .long ry])), (aup, .inl (cJ, 12, .inr (.inl (vp_updL gu pl (fr - to))))), (alw, .inl (cJ, 12, .inr (.inl (vp_updL gl pl (-by_)))))] := hD
                have hE := mAdd_y (q := q) (show mAu_ fr to by_ = (fr - to) from by unfold mAu_; rw [if_pos c4]) (show mAl_ by_ = (-by_) from by unfold mAl_; rw [if_pos c4]) c39 c46 c54
                rw [← hX, ← hY, mIU_e (by first | exact Or.inl c66 | exact Or.inr c94), mIL_e (by first | exact Or.inl c66 | exact Or.inr c94)] at hE
                have hq0 : (nI ((mAdd q fr to by_).2.2)) = (nI (q.2.2 + 1)) := (by rw [hE])
                have hq1 : (mAdd q fr to by_).2.1 = (vp_updL gl pl (-by_)) := (by rw [hE])
                have hq2 : (mAdd q fr to by_).1 = (vp_updL gu pl (fr - to)) := (by rw [hE])
                have hw : ([(om, .inr (5, [.int (nI cd), .int (nI ns), .ref apx, .ref apy, .ref act, .int (nI nb), .ref asd, .ref amv, .ref asl, .ref apl, .ref asw, .int (nI nw), .ref aor, .int (nI nc), .ref aon, .ref atw, .long mx, .long my, .ref aup, .ref alw, .int (nI (q.2.2 + 1)), .long up, .long lo, .long rx, .long ry])), (aup, .inl (cJ, 12, .inr (.inl (vp_updL gu pl (fr - to))))), (alw, .inl (cJ, 12, .inr (.inl (vp_updL gl pl (-by_)))))] : va_W) = [(om, .inr (5, [.int (nI cd), .int (nI ns), .ref apx, .ref apy, .ref act, .int (nI nb), .ref asd, .ref amv, .ref asl, .ref apl, .ref asw, .int (nI nw), .ref aor, .int (nI nc), .ref aon, .ref atw, .long mx, .long my, .ref aup, .ref alw, .int (nI ((mAdd q fr to by_).2.2)), .long up, .long lo, .long rx, .long ry])), (aup, .inl (cJ, 12, .inr (.inl (mAdd q fr to by_).1))), (alw, .inl (cJ, 12, .inr (.inl (mAdd q fr to by_).2.1)))] := by rw [hq0, hq1, hq2]
                rw [hw] at hP hD
                exact kEv hx hb hr hlocks hP hK hD hS dX5_add_163
              · rw [← nI_0, nI_leI (by omega) (by omega), Nat.not_le] at c66
                refine lv_aload_n hx hb dX5_add_69 rfl (lv_at hl 0 rfl) ?_
                refine va_get (D := (dC, dI)) (ci := 5) (v := .ref aup) (C := RX5) (T := TX5) (N := 25) hx hb hts hi5 hown hK hP 0 rfl rfl 18 (by decide) f45 (fun _ h9 => h9) rfl dX5_add_70 ?_
                refine lv_iload hx hb dX5_add_73 (lv_at hl 3 rfl) ?_
                refine lv_iconst (v := (nI 1)) hx hb dX5_add_75 (by decide) ?_
                refine lv_isub hx hb dX5_add_76 ?_
                rw [show (nI pl) - (nI 1) = (nI (pl - 1)) from pk_sub (show 1 ≤ pl by omega)]
                refine va_lald hx hb hK hP 1 0 rfl rfl (vp_in_nI (show (pl - 1) < 12 by omega) (by omega)) dX5_add_77 ?_
                rw [show (nI (pl - 1)).toNatClampNeg = (pl - 1) from nI_clamp (show (pl - 1) < 2 ^ 31 by omega)]
                refine lv_lload hx hb dX5_add_78 (lv_at hl 2 rfl) ?_
                refine lv_lmul hx hb dX5_add_80 ?_
                refine lv_lload hx hb dX5_add_81 (lv_at hl 1 rfl) ?_
                refine lv_aload_n hx hb dX5_add_83 rfl (lv_at hl 0 rfl) ?_
                refine va_get (D := (dC, dI)) (ci := 5) (v := .ref alw) (C := RX5) (T := TX5) (N := 25) hx hb hts hi5 hown hK hP 0 rfl rfl 19 (by decide) f48 (fun _ h9 => h9) rfl dX5_add_84 ?_
                refine lv_iload hx hb dX5_add_87 (lv_at hl 3 rfl) ?_
                refine lv_iconst (v := (nI 1)) hx hb dX5_add_89 (by decide) ?_
                refine lv_isub hx hb dX5_add_90 ?_
                rw [show (nI pl) - (nI 1) = (nI (pl - 1)) from pk_sub (show 1 ≤ pl by omega)]
                refine va_lald hx hb hK hP 2 0 rfl rfl (vp_in_nI (show (pl - 1) < 12 by omega) (by omega)) dX5_add_91 ?_
                rw [show (nI (pl - 1)).toNatClampNeg = (pl - 1) from nI_clamp (show (pl - 1) < 2 ^ 31 by omega)]
                refine lv_lmul hx hb dX5_add_92 ?_
                refine W.lcmp hx hb dX5_add_93 ?_
                refine lv_if_le (tgt := 135) hx hb dX5_add_94 (by decide) (fun c94 => ?_) (fun c94 => ?_)
                · rw [lg_cmp_le] at c94
                  refine lv_aload_n hx hb dX5_add_135 rfl (lv_at hl 0 rfl) ?_
                  refine va_get (D := (dC, dI)) (ci := 5) (v := .ref aup) (C := RX5) (T := TX5) (N := 25) hx hb hts hi5 hown hK hP 0 rfl rfl 18 (by decide) f45 (fun _ h9 => h9) rfl dX5_add_136 ?_
                  refine lv_iload hx hb dX5_add_139 (lv_at hl 3 rfl) ?_
                  refine lv_lload hx hb dX5_add_141 (lv_at hl 1 rfl) ?_
                  refine va_last hx hb hK hP hD hS 1 0 rfl rfl (vp_in_nI (show pl < 12 by omega) (by omega)) dX5_add_143 (fun H locs hP hD hS => ?_)
                  rw [show (nI pl).toNatClampNeg = pl from nI_clamp (show pl < 2 ^ 31 by omega)] at hP hD
                  have hP : va_P (dC, dI) vwCl [(om, .inr (5, [.int (nI cd), .int (nI ns), .ref apx, .ref apy, .ref act, .int (nI nb), .ref asd, .ref amv, .ref asl, .ref apl, .ref asw, .int (nI nw), .ref aor, .int (nI nc), .ref aon, .ref atw, .long mx, .long my, .ref aup, .ref alw, .int (nI q.2.2), .long up, .long lo, .long rx, .long ry])), (aup, .inl (cJ, 12, .inr (.inl (vp_updL gu pl (fr - to))))), (alw, .inl (cJ, 12, .inr (.inl gl)))] H := hP
                  have hD : va_D A [(om, .inr (5, [.int (nI cd), .int (nI ns), .ref apx, .ref apy, .ref act, .int (nI nb), .ref asd, .ref amv, .ref asl, .ref apl, .ref asw, .int (nI nw), .ref aor, .int (nI nc), .ref aon, .ref atw, .long mx, .long my, .ref aup, .ref alw, .int (nI q.2.2), .long up, .long lo, .long rx, .long ry])), (aup, .inl (cJ, 12, .inr (.inl (vp_updL gu pl (fr - to))))), (alw, .inl (cJ, 12, .inr (.inl gl)))] := hD
                  refine lv_aload_n hx hb dX5_add_144 rfl (lv_at hl 0 rfl) ?_
                  refine va_get (D := (dC, dI)) (ci := 5) (v := .ref alw) (C := RX5) (T := TX5) (N := 25) hx hb hts hi5 hown hK hP 0 rfl rfl 19 (by decide) f48 (fun _ h9 => h9) rfl dX5_add_145 ?_
                  refine lv_iload hx hb dX5_add_148 (lv_at hl 3 rfl) ?_
                  refine lv_lload hx hb dX5_add_150 (lv_at hl 2 rfl) ?_
                  refine va_last hx hb hK hP hD hS 2 0 rfl rfl (vp_in_nI (show pl < 12 by omega) (by omega)) dX5_add_152 (fun H locs hP hD hS => ?_)
                  rw [show (nI pl).toNatClampNeg = pl from nI_clamp (show pl < 2 ^ 31 by omega)] at hP hD
                  have hP : va_P (dC, dI) vwCl [(om, .inr (5, [.int (nI cd), .int (nI ns), .ref apx, .ref apy, .ref act, .int (nI nb), .ref asd, .ref amv, .ref asl, .ref apl, .ref asw, .int (nI nw), .ref aor, .int (nI nc), .ref aon, .ref atw, .long mx, .long my, .ref aup, .ref alw, .int (nI q.2.2), .long up, .long lo, .long rx, .long ry])), (aup, .inl (cJ, 12, .inr (.inl (vp_updL gu pl (fr - to))))), (alw, .inl (cJ, 12, .inr (.inl (vp_updL gl pl (-by_)))))] H := hP
                  have hD : va_D A [(om, .inr (5, [.int (nI cd), .int (nI ns), .ref apx, .ref apy, .ref act, .int (nI nb), .ref asd, .ref amv, .ref asl, .ref apl, .ref asw, .int (nI nw), .ref aor, .int (nI nc), .ref aon, .ref atw, .long mx, .long my, .ref aup, .ref alw, .int (nI q.2.2), .long up, .long lo, .long rx, .long ry])), (aup, .inl (cJ, 12, .inr (.inl (vp_updL gu pl (fr - to))))), (alw, .inl (cJ, 12, .inr (.inl (vp_updL gl pl (-by_)))))] := hD
                  refine lv_aload_n hx hb dX5_add_153 rfl (lv_at hl 0 rfl) ?_
                  refine lv_dup hx hb dX5_add_154 rfl ?_
                  refine va_get (D := (dC, dI)) (ci := 5) (v := .int (nI q.2.2)) (C := RX5) (T := TX5) (N := 25) hx hb hts hi5 hown hK hP 0 rfl rfl 20 (by decide) f135 (fun _ h9 => h9) rfl dX5_add_155 ?_
                  refine lv_iconst (v := (nI 1)) hx hb dX5_add_158 (by decide) ?_
                  refine lv_iadd hx hb dX5_add_159 ?_
                  rw [show (nI q.2.2) + (nI 1) = (nI (q.2.2 + 1)) from nI_add q.2.2 1]
                  refine va_put (D := (dC, dI)) (ci := 5) (v := .int (nI (q.2.2 + 1))) (ty := .int) (C := RX5) (T := TX5) (N := 25) hx hb hts hi5 tyX5 tyX5_ok nmX5 hown hK hP hD hS 0 rfl rfl 20 (by decide) f135 (fun _ h9 => h9) rfl (by decide +kernel) rfl rfl (Nat.le_of_ble_eq_true rfl) dX5_add_160 (fun H locs hP hD hS => ?_)
                  have hP : va_P (dC, dI) vwCl [(om, .inr (5, [.int (nI cd), .int (nI ns), .ref apx, .ref apy, .ref act, .int (nI nb), .ref asd, .ref amv, .ref asl, .ref apl, .ref asw, .int (nI nw), .ref aor, .int (nI nc), .ref aon, .ref atw, .long mx, .long my, .ref aup, .ref alw, .int (nI (q.2.2 + 1)), .long up, .long lo, .long rx, .long ry])), (aup, .inl (cJ, 12, .inr (.inl (vp_updL gu pl (fr - to))))), (alw, .inl (cJ, 12, .inr (.inl (vp_updL gl pl (-by_)))))] H := hP
                  have hD : va_D A [(om, .inr (5, [.int (nI cd), .int (nI ns), .ref apx, .ref apy, .ref act, .int (nI nb), .ref asd, .ref amv, .ref asl, .ref apl, .ref asw, .int (nI nw), .ref aor, .int (nI nc), .ref aon, .ref atw, .long mx, .long my, .ref aup, .ref alw, .int (nI (q.2.2 + 1)), .long up, .long lo, .long rx, .long ry])), (aup, .inl (cJ, 12, .inr (.inl (vp_updL gu pl (fr - to))))), (alw, .inl (cJ, 12, .inr (.inl (vp_updL gl pl (-by_)))))] := hD
                  have hE := mAdd_y (q := q) (show mAu_ fr to by_ = (fr - to) from by unfold mAu_; rw [if_pos c4]) (show mAl_ by_ = (-by_) from by unfold mAl_; rw [if_pos c4]) c39 c46 c54
                  rw [← hX, ← hY, mIU_e (by first | exact Or.inl c66 | exact Or.inr c94), mIL_e (by first | exact Or.inl c66 | exact Or.inr c94)] at hE
                  have hq0 : (nI ((mAdd q fr to by_).2.2)) = (nI (q.2.2 + 1)) := (by rw [hE])
                  have hq1 : (mAdd q fr to by_).2.1 = (vp_updL gl pl (-by_)) := (by rw [hE])
                  have hq2 : (mAdd q fr to by_).1 = (vp_updL gu pl (fr - to)) := (by rw [hE])
                  have hw : ([(om, .inr (5, [.int (nI cd), .int (nI ns), .ref apx, .ref apy, .ref act, .int (nI nb), .ref asd, .ref amv, .ref asl, .ref apl, .ref asw, .int (nI nw), .ref aor, .int (nI nc), .ref aon, .ref atw, .long mx, .long my, .ref aup, .ref alw, .int (nI (q.2.2 + 1)), .long up, .long lo, .long rx, .long ry])), (aup, .inl (cJ, 12, .inr (.inl (vp_updL gu pl (fr - to))))), (alw, .inl (cJ, 12, .inr (.inl (vp_updL gl pl (-by_)))))] : va_W) = [(om, .inr (5, [.int (nI cd), .int (nI ns), .ref apx, .ref apy, .ref act, .int (nI nb), .ref asd, .ref amv, .ref asl, .ref apl, .ref asw, .int (nI nw), .ref aor, .int (nI nc), .ref aon, .ref atw, .long mx, .long my, .ref aup, .ref alw, .int (nI ((mAdd q fr to by_).2.2)), .long up, .long lo, .long rx, .long ry])), (aup, .inl (cJ, 12, .inr (.inl (mAdd q fr to by_).1))), (alw, .inl (cJ, 12, .inr (.inl (mAdd q fr to by_).2.1)))] := by rw [hq0, hq1, hq2]
                  rw [hw] at hP hD
                  exact kEv hx hb hr hlocks hP hK hD hS dX5_add_163
                · rw [lg_cmp_le, Int64.not_le] at c94
                  refine lv_aload_n hx hb dX5_add_97 rfl (lv_at hl 0 rfl) ?_
                  refine va_get (D := (dC, dI)) (ci := 5) (v := .ref aup) (C := RX5) (T := TX5) (N := 25) hx hb hts hi5 hown hK hP 0 rfl rfl 18 (by decide) f45 (fun _ h9 => h9) rfl dX5_add_98 ?_
                  refine lv_iload hx hb dX5_add_101 (lv_at hl 3 rfl) ?_
                  refine lv_aload_n hx hb dX5_add_103 rfl (lv_at hl 0 rfl) ?_
                  refine va_get (D := (dC, dI)) (ci := 5) (v := .ref aup) (C := RX5) (T := TX5) (N := 25) hx hb hts hi5 hown hK hP 0 rfl rfl 18 (by decide) f45 (fun _ h9 => h9) rfl dX5_add_104 ?_
                  refine lv_iload hx hb dX5_add_107 (lv_at hl 3 rfl) ?_
                  refine lv_iconst (v := (nI 1)) hx hb dX5_add_109 (by decide) ?_
                  refine lv_isub hx hb dX5_add_110 ?_
                  rw [show (nI pl) - (nI 1) = (nI (pl - 1)) from pk_sub (show 1 ≤ pl by omega)]
                  refine va_lald hx hb hK hP 1 0 rfl rfl (vp_in_nI (show (pl - 1) < 12 by omega) (by omega)) dX5_add_111 ?_
                  rw [show (nI (pl - 1)).toNatClampNeg = (pl - 1) from nI_clamp (show (pl - 1) < 2 ^ 31 by omega)]
                  refine va_last hx hb hK hP hD hS 1 0 rfl rfl (vp_in_nI (show pl < 12 by omega) (by omega)) dX5_add_112 (fun H locs hP hD hS => ?_)
                  rw [show (nI pl).toNatClampNeg = pl from nI_clamp (show pl < 2 ^ 31 by omega)] at hP hD
                  have hP : va_P (dC, dI) vwCl [(om, .inr (5, [.int (nI cd), .int (nI ns), .ref apx, .ref apy, .ref act, .int (nI nb), .ref asd, .ref amv, .ref asl, .ref apl, .ref asw, .int (nI nw), .ref aor, .int (nI nc), .ref aon, .ref atw, .long mx, .long my, .ref aup, .ref alw, .int (nI q.2.2), .long up, .long lo, .long rx, .long ry])), (aup, .inl (cJ, 12, .inr (.inl (vp_updL gu pl (gu ((pl - 1))))))), (alw, .inl (cJ, 12, .inr (.inl gl)))] H := hP
                  have hD : va_D A [(om, .inr (5, [.int (nI cd), .int (nI ns), .ref apx, .ref apy, .ref act, .int (nI nb), .ref asd, .ref amv, .ref asl, .ref apl, .ref asw, .int (nI nw), .ref aor, .int (nI nc), .ref aon, .ref atw, .long mx, .long my, .ref aup, .ref alw, .int (nI q.2.2), .long up, .long lo, .long rx, .long ry])), (aup, .inl (cJ, 12, .inr (.inl (vp_updL gu pl (gu ((pl - 1))))))), (alw, .inl (cJ, 12, .inr (.inl gl)))] := hD
                  refine lv_aload_n hx hb dX5_add_113 rfl (lv_at hl 0 rfl) ?_
                  refine va_get (D := (dC, dI)) (ci := 5) (v := .ref alw) (C := RX5) (T := TX5) (N := 25) hx hb hts hi5 hown hK hP 0 rfl rfl 19 (by decide) f48 (fun _ h9 => h9) rfl dX5_add_114 ?_
                  refine lv_iload hx hb dX5_add_117 (lv_at hl 3 rfl) ?_
                  refine lv_aload_n hx hb dX5_add_119 rfl (lv_at hl 0 rfl) ?_
                  refine va_get (D := (dC, dI)) (ci := 5) (v := .ref alw) (C := RX5) (T := TX5) (N := 25) hx hb hts hi5 hown hK hP 0 rfl rfl 19 (by decide) f48 (fun _ h9 => h9) rfl dX5_add_120 ?_
                  refine lv_iload hx hb dX5_add_123 (lv_at hl 3 rfl) ?_
                  refine lv_iconst (v := (nI 1)) hx hb dX5_add_125 (by decide) ?_
                  refine lv_isub hx hb dX5_add_126 ?_
                  rw [show (nI pl) - (nI 1) = (nI (pl - 1)) from pk_sub (show 1 ≤ pl by omega)]
                  refine va_lald hx hb hK hP 2 0 rfl rfl (vp_in_nI (show (pl - 1) < 12 by omega) (by omega)) dX5_add_127 ?_
                  rw [show (nI (pl - 1)).toNatClampNeg = (pl - 1) from nI_clamp (show (pl - 1) < 2 ^ 31 by omega)]
                  refine va_last hx hb hK hP hD hS 2 0 rfl rfl (vp_in_nI (show pl < 12 by omega) (by omega)) dX5_add_128 (fun H locs hP hD hS => ?_)
                  rw [show (nI pl).toNatClampNeg = pl from nI_clamp (show pl < 2 ^ 31 by omega)] at hP hD
                  have hP : va_P (dC, dI) vwCl [(om, .inr (5, [.int (nI cd), .int (nI ns), .ref apx, .ref apy, .ref act, .int (nI nb), .ref asd, .ref amv, .ref asl, .ref apl, .ref asw, .int (nI nw), .ref aor, .int (nI nc), .ref aon, .ref atw, .long mx, .long my, .ref aup, .ref alw, .int (nI q.2.2), .long up, .long lo, .long rx, .long ry])), (aup, .inl (cJ, 12, .inr (.inl (vp_updL gu pl (gu ((pl - 1))))))), (alw, .inl (cJ, 12, .inr (.inl (vp_updL gl pl (gl ((pl - 1)))))))] H := hP
                  have hD : va_D A [(om, .inr (5, [.int (nI cd), .int (nI ns), .ref apx, .ref apy, .ref act, .int (nI nb), .ref asd, .ref amv, .ref asl, .ref apl, .ref asw, .int (nI nw), .ref aor, .int (nI nc), .ref aon, .ref atw, .long mx, .long my, .ref aup, .ref alw, .int (nI q.2.2), .long up, .long lo, .long rx, .long ry])), (aup, .inl (cJ, 12, .inr (.inl (vp_updL gu pl (gu ((pl - 1))))))), (alw, .inl (cJ, 12, .inr (.inl (vp_updL gl pl (gl ((pl - 1)))))))] := hD
                  refine lv_iinc (v := (nI (pl - 1))) (lv' := [(11, .int (nI (pl - 1))), (0, .ref om), (7, .long (fr - to)), (9, .long (-by_))]) hx hb dX5_add_129 hl (k := 3) rfl (sb_m1 (show 0 < pl by omega)) (by decide) rfl (fun ls hl => ?_)
                  refine lv_goto (tgt := 64) hx hb dX5_add_132 (by decide) ?_
                  exact ih64 (pl - 1, vp_updL gu pl (gu (pl - 1)), vp_updL gl pl (gl (pl - 1))) _ _ _ ⟨hP, hD, hS, lv_sub hl [1, 2, 3, 0] rfl, ⟨by omega, by rw [← hX, mIU_s c66 c94], by rw [← hY, mIL_s c66 c94]⟩⟩ (by simp only []; omega)
            · exact ⟨hP, hD, hS, lv_sub hl [3, 2, 1, 0] rfl, ⟨Nat.le_refl _, rfl, rfl⟩⟩
          · rw [lg_cmp_le, Int64.not_le] at c54
            have hE := mAdd_n (q := q) (show mAu_ fr to by_ = (fr - to) from by unfold mAu_; rw [if_pos c4]) (show mAl_ by_ = (-by_) from by unfold mAl_; rw [if_pos c4]) (by first | exact Or.inl c39 | exact Or.inr (Or.inl c46) | exact Or.inr (Or.inr c54))
            have hq0 : (nI ((mAdd q fr to by_).2.2)) = (nI q.2.2) := (by rw [hE])
            have hq1 : (mAdd q fr to by_).2.1 = q.2.1 := (by rw [hE])
            have hq2 : (mAdd q fr to by_).1 = q.1 := (by rw [hE])
            have hw : ([(om, .inr (5, [.int (nI cd), .int (nI ns), .ref apx, .ref apy, .ref act, .int (nI nb), .ref asd, .ref amv, .ref asl, .ref apl, .ref asw, .int (nI nw), .ref aor, .int (nI nc), .ref aon, .ref atw, .long mx, .long my, .ref aup, .ref alw, .int (nI q.2.2), .long up, .long lo, .long rx, .long ry])), (aup, .inl (cJ, 12, .inr (.inl q.1))), (alw, .inl (cJ, 12, .inr (.inl q.2.1)))] : va_W) = [(om, .inr (5, [.int (nI cd), .int (nI ns), .ref apx, .ref apy, .ref act, .int (nI nb), .ref asd, .ref amv, .ref asl, .ref apl, .ref asw, .int (nI nw), .ref aor, .int (nI nc), .ref aon, .ref atw, .long mx, .long my, .ref aup, .ref alw, .int (nI ((mAdd q fr to by_).2.2)), .long up, .long lo, .long rx, .long ry])), (aup, .inl (cJ, 12, .inr (.inl (mAdd q fr to by_).1))), (alw, .inl (cJ, 12, .inr (.inl (mAdd q fr to by_).2.1)))] := by rw [hq0, hq1, hq2]
            rw [hw] at hP hD
            exact kEv hx hb hr hlocks hP hK hD hS dX5_add_57

/-- the moments at which something may change -/
noncomputable def mMo (fon ftw : Nat → Int64) (mx my : Int64) (q : (Nat → Int64) × (Nat → Int64) × Nat) : (Nat → Int64) × (Nat → Int64) × Nat := mAdd (mAdd (mAdd (mAdd (mAdd (mAdd q 0 0 1) 0 1 1) (fon 0) (ftw 2) mx) (fon 2) (ftw 0) mx) (fon 1) (ftw 3) my) (fon 3) (ftw 1) my
theorem mMo_le (fon ftw : Nat → Int64) (mx my : Int64) (fu fl : Nat → Int64) : (mMo fon ftw mx my (fu, fl, 0)).2.2 ≤ 6 := mAdd_b (mAdd_b (mAdd_b (mAdd_b (mAdd_b (mAdd_b (Nat.le_refl 0))))))
theorem mMo_good (fon ftw : Nat → Int64) (mx my : Int64) (fu fl : Nat → Int64) : mGood (mMo fon ftw mx my (fu, fl, 0)) := mAdd_good (mAdd_good (mAdd_good (mAdd_good (mAdd_good (mAdd_good (fun j h => absurd h (Nat.not_lt_zero j)))))))
set_option maxHeartbeats 4000000 in
set_option maxRecDepth 100000 in
theorem tX5_findMoments (l : Launch) (dC : Nat → ClassId) (dI : Nat → Nat → Nat) (cJ cI cZ : ClassId) (om cd ns apx apy act nb asd amv asl apl asw nw aor nc aon atw aup alw nm : Nat) (mx my up lo rx ry : Int64) (fon : Nat → Int64) (ftw : Nat → Int64) (fup : Nat → Int64) (flw : Nat → Int64)   : MMv l yX5_findMoments wsX5_findMoments { frames := 1, cells := 0, slots := 0, locals := 31 } [.ref om] (dC, dI) [(om, .inr (5, [.int (nI cd), .int (nI ns), .ref apx, .ref apy, .ref act, .int (nI nb), .ref asd, .ref amv, .ref asl, .ref apl, .ref asw, .int (nI nw), .ref aor, .int (nI nc), .ref aon, .ref atw, .long mx, .long my, .ref aup, .ref alw, .int (nI nm), .long up, .long lo, .long rx, .long ry])), (aon, .inl (cJ, 4, .inr (.inl fon))), (atw, .inl (cJ, 4, .inr (.inl ftw))), (aup, .inl (cJ, 12, .inr (.inl fup))), (alw, .inl (cJ, 12, .inr (.inl flw)))] [(om, .inr (5, [.int (nI cd), .int (nI ns), .ref apx, .ref apy, .ref act, .int (nI nb), .ref asd, .ref amv, .ref asl, .ref apl, .ref asw, .int (nI nw), .ref aor, .int (nI nc), .ref aon, .ref atw, .long mx, .long my, .ref aup, .ref alw, .int (nI ((mMo fon ftw mx my (fup, flw, 0)).2.2)), .long up, .long lo, .long rx, .long ry])), (aon, .inl (cJ, 4, .inr (.inl fon))), (atw, .inl (cJ, 4, .inr (.inl ftw))), (aup, .inl (cJ, 12, .inr (.inl (mMo fon ftw mx my (fup, flw, 0)).1))), (alw, .inl (cJ, 12, .inr (.inl (mMo fon ftw mx my (fup, flw, 0)).2.1)))] [(cJ, .long), (cI, .int), (cZ, .boolean)] := by
  intro sz
  refine kOf (cc := cX5_findMoments) (maxL := 4) (ret := none) (by decide) rfl (Nat.le_of_ble_eq_true rfl) ?_
  intro p e s m below meth c hx hb hr hml hts hown hlocks hB ls hl
  obtain ⟨hsz, hP, hK, hD0⟩ := hB
  subst hsz
  have hD := hD0.self (sz := s.heap.size)
  generalize hAe : va_A [(om, .inr (5, [.int (nI cd), .int (nI ns), .ref apx, .ref apy, .ref act, .int (nI nb), .ref asd, .ref amv, .ref asl, .ref apl, .ref asw, .int (nI nw), .ref aor, .int (nI nc), .ref aon, .ref atw, .long mx, .long my, .ref aup, .ref alw, .int (nI nm), .long up, .long lo, .long rx, .long ry])), (aon, .inl (cJ, 4, .inr (.inl fon))), (atw, .inl (cJ, 4, .inr (.inl ftw))), (aup, .inl (cJ, 12, .inr (.inl fup))), (alw, .inl (cJ, 12, .inr (.inl flw)))] s.heap.size = A at hD ⊢
  have hA : ∀ q : Nat, s.heap.size ≤ q → A q := fun q h => by rw [← hAe]; exact Or.inr h
  have hS : va_S A s.heap s.heap [] := va_S.rf
  have hl : lv_has ls 4 [(0, .ref om)] := hl
  have hi5 : ∀ w ∈ u_ws RX5 TX5 25, w ∈ wsX5_findMoments := by decide +kernel
  have f39 := hts (.fieldLink RX5 39 "SweptBoxesModel" "one" "[J") (by decide +kernel)
  have f42 := hts (.fieldLink RX5 42 "SweptBoxesModel" "two" "[J") (by decide +kernel)
  have f128 := hts (.fieldLink RX5 128 "SweptBoxesModel" "mx" "J") (by decide +kernel)
  have f132 := hts (.fieldLink RX5 132 "SweptBoxesModel" "my" "J") (by decide +kernel)
  have f135 := hts (.fieldLink RX5 135 "SweptBoxesModel" "moments" "I") (by decide +kernel)
  refine lv_aload_n hx hb dX5_findMoments_0 rfl (lv_at hl 0 rfl) ?_
  refine lv_iconst (v := (nI 0)) hx hb dX5_findMoments_1 (by decide) ?_
  refine va_put (D := (dC, dI)) (ci := 5) (v := .int (nI 0)) (ty := .int) (C := RX5) (T := TX5) (N := 25) hx hb hts hi5 tyX5 tyX5_ok nmX5 hown hK hP hD hS 0 rfl rfl 20 (by decide) f135 (fun _ h9 => h9) rfl (by decide +kernel) rfl rfl (Nat.le_of_ble_eq_true rfl) dX5_findMoments_2 (fun H locs hP hD hS => ?_)
  have hP : va_P (dC, dI) vwCl [(om, .inr (5, [.int (nI cd), .int (nI ns), .ref apx, .ref apy, .ref act, .int (nI nb), .ref asd, .ref amv, .ref asl, .ref apl, .ref asw, .int (nI nw), .ref aor, .int (nI nc), .ref aon, .ref atw, .long mx, .long my, .ref aup, .ref alw, .int (nI 0), .long up, .long lo, .long rx, .long ry])), (aon, .inl (cJ, 4, .inr (.inl fon))), (atw, .inl (cJ, 4, .inr (.inl ftw))), (aup, .inl (cJ, 12, .inr (.inl fup))), (alw, .inl (cJ, 12, .inr (.inl flw)))] H := hP
  have hD : va_D A [(om, .inr (5, [.int (nI cd), .int (nI ns), .ref apx, .ref apy, .ref act, .int (nI nb), .ref asd, .ref amv, .ref asl, .ref apl, .ref asw, .int (nI nw), .ref aor, .int (nI nc), .ref aon, .ref atw, .long mx, .long my, .ref aup, .ref alw, .int (nI 0), .long up, .long lo, .long rx, .long ry])), (aon, .inl (cJ, 4, .inr (.inl fon))), (atw, .inl (cJ, 4, .inr (.inl ftw))), (aup, .inl (cJ, 12, .inr (.inl fup))), (alw, .inl (cJ, 12, .inr (.inl flw)))] := hD
  have hP : va_P (dC, dI) vwCl [(om, .inr (5, [.int (nI cd), .int (nI ns), .ref apx, .ref apy, .ref act, .int (nI nb), .ref asd, .ref amv, .ref asl, .ref apl, .ref asw, .int (nI nw), .ref aor, .int (nI nc), .ref aon, .ref atw, .long mx, .long my, .ref aup, .ref alw, .int (nI (fup, flw, 0).2.2), .long up, .long lo, .long rx, .long ry])), (aon, .inl (cJ, 4, .inr (.inl fon))), (atw, .inl (cJ, 4, .inr (.inl ftw))), (aup, .inl (cJ, 12, .inr (.inl (fup, flw, 0).1))), (alw, .inl (cJ, 12, .inr (.inl (fup, flw, 0).2.1)))] H := hP
  have hD : va_D A [(om, .inr (5, [.int (nI cd), .int (nI ns), .ref apx, .ref apy, .ref act, .int (nI nb), .ref asd, .ref amv, .ref asl, .ref apl, .ref asw, .int (nI nw), .ref aor, .int (nI nc), .ref aon, .ref atw, .long mx, .long my, .ref aup, .ref alw, .int (nI (fup, flw, 0).2.2), .long up, .long lo, .long rx, .long ry])), (aon, .inl (cJ, 4, .inr (.inl fon))), (atw, .inl (cJ, 4, .inr (.inl ftw))), (aup, .inl (cJ, 12, .inr (.inl (fup, flw, 0).1))), (alw, .inl (cJ, 12, .inr (.inl (fup, flw, 0).2.1)))] := hD
  refine lv_aload_n hx hb dX5_findMoments_5 rfl (lv_at hl 0 rfl) ?_
  refine lv_lconst (v := 0) hx hb dX5_findMoments_6 (by decide) ?_
  refine lv_lconst (v := 0) hx hb dX5_findMoments_7 (by decide) ?_
  refine lv_lconst (v := 1) hx hb dX5_findMoments_8 (by decide) ?_
  refine kmVv (q0 := 0) (ci := 5) (As := [.long 0, .long 0, .long 1]) (rest := []) (WC := [(om, .inr (5, [.int (nI cd), .int (nI ns), .ref apx, .ref apy, .ref act, .int (nI nb), .ref asd, .ref amv, .ref asl, .ref apl, .ref asw, .int (nI nw), .ref aor, .int (nI nc), .ref aon, .ref atw, .long mx, .long my, .ref aup, .ref alw, .int (nI (fup, flw, 0).2.2), .long up, .long lo, .long rx, .long ry])), (aup, .inl (cJ, 12, .inr (.inl (fup, flw, 0).1))), (alw, .inl (cJ, 12, .inr (.inl (fup, flw, 0).2.1)))]) (W2 := [(om, .inr (5, [.int (nI cd), .int (nI ns), .ref apx, .ref apy, .ref act, .int (nI nb), .ref asd, .ref amv, .ref asl, .ref apl, .ref asw, .int (nI nw), .ref aor, .int (nI nc), .ref aon, .ref atw, .long mx, .long my, .ref aup, .ref alw, .int (nI ((mAdd (fup, flw, 0) 0 0 1).2.2)), .long up, .long lo, .long rx, .long ry])), (aup, .inl (cJ, 12, .inr (.inl (mAdd (fup, flw, 0) 0 0 1).1))), (alw, .inl (cJ, 12, .inr (.inl (mAdd (fup, flw, 0) 0 0 1).2.1)))]) (WR := [(aon, .inl (cJ, 4, .inr (.inl fon))), (atw, .inl (cJ, 4, .inr (.inl ftw)))]) (WN := [(om, .inr (5, [.int (nI cd), .int (nI ns), .ref apx, .ref apy, .ref act, .int (nI nb), .ref asd, .ref amv, .ref asl, .ref apl, .ref asw, .int (nI nw), .ref aor, .int (nI nc), .ref aon, .ref atw, .long mx, .long my, .ref aup, .ref alw, .int (nI ((mAdd (fup, flw, 0) 0 0 1).2.2)), .long up, .long lo, .long rx, .long ry])), (aon, .inl (cJ, 4, .inr (.inl fon))), (atw, .inl (cJ, 4, .inr (.inl ftw))), (aup, .inl (cJ, 12, .inr (.inl (mAdd (fup, flw, 0) 0 0 1).1))), (alw, .inl (cJ, 12, .inr (.inl (mAdd (fup, flw, 0) 0 0 1).2.1)))]) (tyC := [(cJ, .long), (cI, .int), (cZ, .boolean)]) (isC := [0, 3, 4]) (isR := [1, 2]) (isN := [2, 0, 1, 3, 4]) (its := [0, 1, 2]) ⟨hx, hb, hml, hown, hts⟩ (tX5_add l dC dI cJ cI cZ om cd ns apx apy act nb asd amv asl apl asw nw aor nc aon atw aup alw mx my up lo rx ry (fup, flw, 0) 0 0 1 (Nat.lt_of_le_of_lt (Nat.le_refl 0) (by decide))) (cwV 3 hts gX5_findMoments_X5_add rfl rfl rfl (by decide +kernel) ⟨Nat.le_of_ble_eq_true rfl, Nat.le_of_ble_eq_true rfl⟩) hP hD hA hS hK rfl (by decide) rfl (by decide) (by decide) rfl (by decide) rfl rfl rfl rfl rfl hl.1 (Nat.le_of_ble_eq_true rfl) dX5_findMoments_9 ⟨Nat.le_of_ble_eq_true rfl, Nat.le_of_ble_eq_true rfl⟩ (fun H locs hP hD hS => ?_)
  refine lv_aload_n hx hb dX5_findMoments_12 rfl (lv_at hl 0 rfl) ?_
  refine lv_lconst (v := 0) hx hb dX5_findMoments_13 (by decide) ?_
  refine lv_lconst (v := 1) hx hb dX5_findMoments_14 (by decide) ?_
  refine lv_lconst (v := 1) hx hb dX5_findMoments_15 (by decide) ?_
  refine kmVv (q0 := 0) (ci := 5) (As := [.long 0, .long 1, .long 1]) (rest := []) (WC := [(om, .inr (5, [.int (nI cd), .int (nI ns), .ref apx, .ref apy, .ref act, .int (nI nb), .ref asd, .ref amv, .ref asl, .ref apl, .ref asw, .int (nI nw), .ref aor, .int (nI nc), .ref aon, .ref atw, .long mx, .long my, .ref aup, .ref alw, .int (nI ((mAdd (fup, flw, 0) 0 0 1).2.2)), .long up, .long lo, .long rx, .long ry])), (aup, .inl (cJ, 12, .inr (.inl (mAdd (fup, flw, 0) 0 0 1).1))), (alw, .inl (cJ, 12, .inr (.inl (mAdd (fup, flw, 0) 0 0 1).2.1)))]) (W2 := [(om, .inr (5, [.int (nI cd), .int (nI ns), .ref apx, .ref apy, .ref act, .int (nI nb), .ref asd, .ref amv, .ref asl, .ref apl, .ref asw, .int (nI nw), .ref aor, .int (nI nc), .ref aon, .ref atw, .long mx, .long my, .ref aup, .ref alw, .int (nI ((mAdd (mAdd (fup, flw, 0) 0 0 1) 0 1 1).2.2)), .long up, .long lo, .long rx, .long ry])), (aup, .inl (cJ, 12, .inr (.inl (mAdd (mAdd (fup, flw, 0) 0 0 1) 0 1 1).1))), (alw, .inl (cJ, 12, .inr (.inl (mAdd (mAdd (fup, flw, 0) 0 0 1) 0 1 1).2.1)))]) (WR := [(aon, .inl (cJ, 4, .inr (.inl fon))), (atw, .inl (cJ, 4, .inr (.inl ftw)))]) (WN := [(om, .inr (5, [.int (nI cd), .int (nI ns), .ref apx, .ref apy, .ref act, .int (nI nb), .ref asd, .ref amv, .ref asl, .ref apl, .ref asw, .int (nI nw), .ref aor, .int (nI nc), .ref aon, .ref atw, .long mx, .long my, .ref aup, .ref alw, .int (nI ((mAdd (mAdd (fup, flw, 0) 0 0 1) 0 1 1).2.2)), .long up, .long lo, .long rx, .long ry])), (aon, .inl (cJ, 4, .inr (.inl fon))), (atw, .inl (cJ, 4, .inr (.inl ftw))), (aup, .inl (cJ, 12, .inr (.inl (mAdd (mAdd (fup, flw, 0) 0 0 1) 0 1 1).1))), (alw, .inl (cJ, 12, .inr (.inl (mAdd (mAdd (fup, flw, 0) 0 0 1) 0 1 1).2.1)))]) (tyC := [(cJ, .long), (cI, .int), (cZ, .boolean)]) (isC := [0, 3, 4]) (isR := [1, 2]) (isN := [2, 0, 1, 3, 4]) (its := [0, 1, 2]) ⟨hx, hb, hml, hown, hts⟩ (tX5_add l dC dI cJ cI cZ om cd ns apx apy act nb asd amv asl apl asw nw aor nc aon atw aup alw mx my up lo rx ry (mAdd (fup, flw, 0) 0 0 1) 0 1 1 (Nat.lt_of_le_of_lt (mAdd_b (Nat.le_refl 0)) (by decide))) (cwV 3 hts gX5_findMoments_X5_add rfl rfl rfl (by decide +kernel) ⟨Nat.le_of_ble_eq_true rfl, Nat.le_of_ble_eq_true rfl⟩) hP hD hA hS hK rfl (by decide) rfl (by decide) (by decide) rfl (by decide) rfl rfl rfl rfl rfl hl.1 (Nat.le_of_ble_eq_true rfl) dX5_findMoments_16 ⟨Nat.le_of_ble_eq_true rfl, Nat.le_of_ble_eq_true rfl⟩ (fun H locs hP hD hS => ?_)
  refine lv_iconst (v := (nI 0)) hx hb dX5_findMoments_19 (by decide) ?_
  refine lv_istore_n (lv' := [(1, .int (nI 0)), (0, .ref om)]) hx hb dX5_findMoments_20 rfl hl (by decide) rfl (fun ls hl => ?_)
  refine lv_iload_n hx hb dX5_findMoments_21 rfl (lv_at hl 0 rfl) ?_
  refine lv_iconst (v := (nI 2)) hx hb dX5_findMoments_22 (by decide) ?_
  refine lv_icmp_ge (tgt := 86) hx hb dX5_findMoments_23 (by decide) (fun c23 => ?_) (fun c23 => ?_)
  · skip
    exact absurd c23 (by decide)
  · rw [nI_leI (by omega) (by omega), Nat.not_le] at c23
    refine lv_iload_n hx hb dX5_findMoments_26 rfl (lv_at hl 0 rfl) ?_
    refine lv_if_ne (tgt := 37) hx hb dX5_findMoments_27 (by decide) (fun c27 => ?_) (fun c27 => ?_)
    · skip
      exact absurd c27 (by decide)
    · rw [← nI_0, nI_eq (by omega) (by omega)] at c27
      refine lv_aload_n hx hb dX5_findMoments_30 rfl (lv_at hl 1 rfl) ?_
      refine va_get (D := (dC, dI)) (ci := 5) (v := .long mx) (C := RX5) (T := TX5) (N := 25) hx hb hts hi5 hown hK hP 0 rfl rfl 16 (by decide) f128 (fun _ h9 => h9) rfl dX5_findMoments_31 ?_
      refine lv_goto (tgt := 41) hx hb dX5_findMoments_34 (by decide) ?_
      refine lv_lstore_n (lv' := [(2, .long mx), (1, .int (nI 0)), (0, .ref om)]) hx hb dX5_findMoments_41 rfl hl (by decide) rfl (fun ls hl => ?_)
      refine lv_aload_n hx hb dX5_findMoments_42 rfl (lv_at hl 2 rfl) ?_
      refine lv_aload_n hx hb dX5_findMoments_43 rfl (lv_at hl 2 rfl) ?_
      refine va_get (D := (dC, dI)) (ci := 5) (v := .ref aon) (C := RX5) (T := TX5) (N := 25) hx hb hts hi5 hown hK hP 0 rfl rfl 14 (by decide) f39 (fun _ h9 => h9) rfl dX5_findMoments_44 ?_
      refine lv_iload_n hx hb dX5_findMoments_47 rfl (lv_at hl 1 rfl) ?_
      refine va_lald hx hb hK hP 1 0 rfl rfl (vp_in_nI (show 0 < 4 by omega) (by omega)) dX5_findMoments_48 ?_
      rw [show (nI 0).toNatClampNeg = 0 from nI_clamp (show 0 < 2 ^ 31 by omega)]
      refine lv_aload_n hx hb dX5_findMoments_49 rfl (lv_at hl 2 rfl) ?_
      refine va_get (D := (dC, dI)) (ci := 5) (v := .ref atw) (C := RX5) (T := TX5) (N := 25) hx hb hts hi5 hown hK hP 0 rfl rfl 15 (by decide) f42 (fun _ h9 => h9) rfl dX5_findMoments_50 ?_
      refine lv_iload_n hx hb dX5_findMoments_53 rfl (lv_at hl 1 rfl) ?_
      refine lv_iconst (v := (nI 2)) hx hb dX5_findMoments_54 (by decide) ?_
      refine lv_iadd hx hb dX5_findMoments_55 ?_
      rw [show (nI 0) + (nI 2) = (nI 2) from rfl]
      refine va_lald hx hb hK hP 2 0 rfl rfl (vp_in_nI (show 2 < 4 by omega) (by omega)) dX5_findMoments_56 ?_
      rw [show (nI 2).toNatClampNeg = 2 from nI_clamp (show 2 < 2 ^ 31 by omega)]
      refine lv_lload_n hx hb dX5_findMoments_57 rfl (lv_at hl 0 rfl) ?_
      refine kmVv (q0 := 0) (ci := 5) (As := [.long (fon 0), .long (ftw 2), .long mx]) (rest := []) (WC := [(om, .inr (5, [.int (nI cd), .int (nI ns), .ref apx, .ref apy, .ref act, .int (nI nb), .ref asd, .ref amv, .ref asl, .ref apl, .ref asw, .int (nI nw), .ref aor, .int (nI nc), .ref aon, .ref atw, .long mx, .long my, .ref aup, .ref alw, .int (nI ((mAdd (mAdd (fup, flw, 0) 0 0 1) 0 1 1).2.2)), .long up, .long lo, .long rx, .long ry])), (aup, .inl (cJ, 12, .inr (.inl (mAdd (mAdd (fup, flw, 0) 0 0 1) 0 1 1).1))), (alw, .inl (cJ, 12, .inr (.inl (mAdd (mAdd (fup, flw, 0) 0 0 1) 0 1 1).2.1)))]) (W2 := [(om, .inr (5, [.int (nI cd), .int (nI ns), .ref apx, .ref apy, .ref act, .int (nI nb), .ref asd, .ref amv, .ref asl, .ref apl, .ref asw, .int (nI nw), .ref aor, .int (nI nc), .ref aon, .ref atw, .long mx, .long my, .ref aup, .ref alw, .int (nI ((mAdd (mAdd (mAdd (fup, flw, 0) 0 0 1) 0 1 1) (fon 0) (ftw 2) mx).2.2)), .long up, .long lo, .long rx, .long ry])), (aup, .inl (cJ, 12, .inr (.inl (mAdd (mAdd (mAdd (fup, flw, 0) 0 0 1) 0 1 1) (fon 0) (ftw 2) mx).1))), (alw, .inl (cJ, 12, .inr (.inl (mAdd (mAdd (mAdd (fup, flw, 0) 0 0 1) 0 1 1) (fon 0) (ftw 2) mx).2.1)))]) (WR := [(aon, .inl (cJ, 4, .inr (.inl fon))), (atw, .inl (cJ, 4, .inr (.inl ftw)))]) (WN := [(om, .inr (5, [.int (nI cd), .int (nI ns), .ref apx, .ref apy, .ref act, .int (nI nb), .ref asd, .ref amv, .ref asl, .ref apl, .ref asw, .int (nI nw), .ref aor, .int (nI nc), .ref aon, .ref atw, .long mx, .long my, .ref aup, .ref alw, .int (nI ((mAdd (mAdd (mAdd (fup, flw, 0) 0 0 1) 0 1 1) (fon 0) (ftw 2) mx).2.2)), .long up, .long lo, .long rx, .long ry])), (aon, .inl (cJ, 4, .inr (.inl fon))), (atw, .inl (cJ, 4, .inr (.inl ftw))), (aup, .inl (cJ, 12, .inr (.inl (mAdd (mAdd (mAdd (fup, flw, 0) 0 0 1) 0 1 1) (fon 0) (ftw 2) mx).1))), (alw, .inl (cJ, 12, .inr (.inl (mAdd (mAdd (mAdd (fup, flw, 0) 0 0 1) 0 1 1) (fon 0) (ftw 2) mx).2.1)))]) (tyC := [(cJ, .long), (cI, .int), (cZ, .boolean)]) (isC := [0, 3, 4]) (isR := [1, 2]) (isN := [2, 0, 1, 3, 4]) (its := [0, 1, 2]) ⟨hx, hb, hml, hown, hts⟩ (tX5_add l dC dI cJ cI cZ om cd ns apx apy act nb asd amv asl apl asw nw aor nc aon atw aup alw mx my up lo rx ry (mAdd (mAdd (fup, flw, 0) 0 0 1) 0 1 1) (fon 0) (ftw 2) mx (Nat.lt_of_le_of_lt (mAdd_b (mAdd_b (Nat.le_refl 0))) (by decide))) (cwV 3 hts gX5_findMoments_X5_add rfl rfl rfl (by decide +kernel) ⟨Nat.le_of_ble_eq_true rfl, Nat.le_of_ble_eq_true rfl⟩) hP hD hA hS hK rfl (by decide) rfl (by decide) (by decide) rfl (by decide) rfl rfl rfl rfl rfl hl.1 (Nat.le_of_ble_eq_true rfl) dX5_findMoments_58 ⟨Nat.le_of_ble_eq_true rfl, Nat.le_of_ble_eq_true rfl⟩ (fun H locs hP hD hS => ?_)
      refine lv_aload_n hx hb dX5_findMoments_61 rfl (lv_at hl 2 rfl) ?_
      refine lv_aload_n hx hb dX5_findMoments_62 rfl (lv_at hl 2 rfl) ?_
      refine va_get (D := (dC, dI)) (ci := 5) (v := .ref aon) (C := RX5) (T := TX5) (N := 25) hx hb hts hi5 hown hK hP 0 rfl rfl 14 (by decide) f39 (fun _ h9 => h9) rfl dX5_findMoments_63 ?_
      refine lv_iload_n hx hb dX5_findMoments_66 rfl (lv_at hl 1 rfl) ?_
      refine lv_iconst (v := (nI 2)) hx hb dX5_findMoments_67 (by decide) ?_
      refine lv_iadd hx hb dX5_findMoments_68 ?_
      rw [show (nI 0) + (nI 2) = (nI 2) from rfl]
      refine va_lald hx hb hK hP 1 0 rfl rfl (vp_in_nI (show 2 < 4 by omega) (by omega)) dX5_findMoments_69 ?_
      rw [show (nI 2).toNatClampNeg = 2 from nI_clamp (show 2 < 2 ^ 31 by omega)]
      refine lv_aload_n hx hb dX5_findMoments_70 rfl (lv_at hl 2 rfl) ?_
      refine va_get (D := (dC, dI)) (ci := 5) (v := .ref atw) (C := RX5) (T := TX5) (N := 25) hx hb hts hi5 hown hK hP 0 rfl rfl 15 (by decide) f42 (fun _ h9 => h9) rfl dX5_findMoments_71 ?_
      refine lv_iload_n hx hb dX5_findMoments_74 rfl (lv_at hl 1 rfl) ?_
      refine va_lald hx hb hK hP 2 0 rfl rfl (vp_in_nI (show 0 < 4 by omega) (by omega)) dX5_findMoments_75 ?_
      rw [show (nI 0).toNatClampNeg = 0 from nI_clamp (show 0 < 2 ^ 31 by omega)]
      refine lv_lload_n hx hb dX5_findMoments_76 rfl (lv_at hl 0 rfl) ?_
      refine kmVv (q0 := 0) (ci := 5) (As := [.long (fon 2), .long (ftw 0), .long mx]) (rest := []) (WC := [(om, .inr (5, [.int (nI cd), .int (nI ns), .ref apx, .ref apy, .ref act, .int (nI nb), .ref asd, .ref amv, .ref asl, .ref apl, .ref asw, .int (nI nw), .ref aor, .int (nI nc), .ref aon, .ref atw, .long mx, .long my, .ref aup, .ref alw, .int (nI ((mAdd (mAdd (mAdd (fup, flw, 0) 0 0 1) 0 1 1) (fon 0) (ftw 2) mx).2.2)), .long up, .long lo, .long rx, .long ry])), (aup, .inl (cJ, 12, .inr (.inl (mAdd (mAdd (mAdd (fup, flw, 0) 0 0 1) 0 1 1) (fon 0) (ftw 2) mx).1))), (alw, .inl (cJ, 12, .inr (.inl (mAdd (mAdd (mAdd (fup, flw, 0) 0 0 1) 0 1 1) (fon 0) (ftw 2) mx).2.1)))]) (W2 := [(om, .inr (5, [.int (nI cd), .int (nI ns), .ref apx, .ref apy, .ref act, .int (nI nb), .ref asd, .ref amv, .ref asl, .ref apl, .ref asw, .int (nI nw), .ref aor, .int (nI nc), .ref aon, .ref atw, .long mx, .long my, .ref aup, .ref alw, .int (nI ((mAdd (mAdd (mAdd (mAdd (fup, flw, 0) 0 0 1) 0 1 1) (fon 0) (ftw 2) mx) (fon 2) (ftw 0) mx).2.2)), .long up, .long lo, .long rx, .long ry])), (aup, .inl (cJ, 12, .inr (.inl (mAdd (mAdd (mAdd (mAdd (fup, flw, 0) 0 0 1) 0 1 1) (fon 0) (ftw 2) mx) (fon 2) (ftw 0) mx).1))), (alw, .inl (cJ, 12, .inr (.inl (mAdd (mAdd (mAdd (mAdd (fup, flw, 0) 0 0 1) 0 1 1) (fon 0) (ftw 2) mx) (fon 2) (ftw 0) mx).2.1)))]) (WR := [(aon, .inl (cJ, 4, .inr (.inl fon))), (atw, .inl (cJ, 4, .inr (.inl ftw)))]) (WN := [(om, .inr (5, [.int (nI cd), .int (nI ns), .ref apx, .ref apy, .ref act, .int (nI nb), .ref asd, .ref amv, .ref asl, .ref apl, .ref asw, .int (nI nw), .ref aor, .int (nI nc), .ref aon, .ref atw, .long mx, .long my, .ref aup, .ref alw, .int (nI ((mAdd (mAdd (mAdd (mAdd (fup, flw, 0) 0 0 1) 0 1 1) (fon 0) (ftw 2) mx) (fon 2) (ftw 0) mx).2.2)), .long up, .long lo, .long rx, .long ry])), (aon, .inl (cJ, 4, .inr (.inl fon))), (atw, .inl (cJ, 4, .inr (.inl ftw))), (aup, .inl (cJ, 12, .inr (.inl (mAdd (mAdd (mAdd (mAdd (fup, flw, 0) 0 0 1) 0 1 1) (fon 0) (ftw 2) mx) (fon 2) (ftw 0) mx).1))), (alw, .inl (cJ, 12, .inr (.inl (mAdd (mAdd (mAdd (mAdd (fup, flw, 0) 0 0 1) 0 1 1) (fon 0) (ftw 2) mx) (fon 2) (ftw 0) mx).2.1)))]) (tyC := [(cJ, .long), (cI, .int), (cZ, .boolean)]) (isC := [0, 3, 4]) (isR := [1, 2]) (isN := [2, 0, 1, 3, 4]) (its := [0, 1, 2]) ⟨hx, hb, hml, hown, hts⟩ (tX5_add l dC dI cJ cI cZ om cd ns apx apy act nb asd amv asl apl asw nw aor nc aon atw aup alw mx my up lo rx ry (mAdd (mAdd (mAdd (fup, flw, 0) 0 0 1) 0 1 1) (fon 0) (ftw 2) mx) (fon 2) (ftw 0) mx (Nat.lt_of_le_of_lt (mAdd_b (mAdd_b (mAdd_b (Nat.le_refl 0)))) (by decide))) (cwV 3 hts gX5_findMoments_X5_add rfl rfl rfl (by decide +kernel) ⟨Nat.le_of_ble_eq_true rfl, Nat.le_of_ble_eq_true rfl⟩) hP hD hA hS hK rfl (by decide) rfl (by decide) (by decide) rfl (by decide) rfl rfl rfl rfl rfl hl.1 (Nat.le_of_ble_eq_true rfl) dX5_findMoments_77 ⟨Nat.le_of_ble_eq_true rfl, Nat.le_of_ble_eq_true rfl⟩ (fun H locs hP hD hS => ?_)
      refine lv_iinc (v := (nI 1)) (lv' := [(1, .int (nI 1)), (2, .long mx), (0, .ref om)]) hx hb dX5_findMoments_80 hl (k := 1) rfl rfl (by decide) rfl (fun ls hl => ?_)
      refine lv_goto (tgt := 21) hx hb dX5_findMoments_83 (by decide) ?_
      refine lv_iload_n hx hb dX5_findMoments_21 rfl (lv_at hl 0 rfl) ?_
      refine lv_iconst (v := (nI 2)) hx hb dX5_findMoments_22 (by decide) ?_
      refine lv_icmp_ge (tgt := 86) hx hb dX5_findMoments_23 (by decide) (fun c23_1 => ?_) (fun c23_1 => ?_)
      · skip
        exact absurd c23_1 (by decide)
      · rw [nI_leI (by omega) (by omega), Nat.not_le] at c23_1
        refine lv_iload_n hx hb dX5_findMoments_26 rfl (lv_at hl 0 rfl) ?_
        refine lv_if_ne (tgt := 37) hx hb dX5_findMoments_27 (by decide) (fun c27_2 => ?_) (fun c27_2 => ?_)
        · rw [← nI_0, nI_eq (by omega) (by omega)] at c27_2
          refine lv_aload_n hx hb dX5_findMoments_37 rfl (lv_at hl 2 rfl) ?_
          refine va_get (D := (dC, dI)) (ci := 5) (v := .long my) (C := RX5) (T := TX5) (N := 25) hx hb hts hi5 hown hK hP 0 rfl rfl 17 (by decide) f132 (fun _ h9 => h9) rfl dX5_findMoments_38 ?_
          refine lv_lstore_n (lv' := [(2, .long my), (1, .int (nI 1)), (0, .ref om)]) hx hb dX5_findMoments_41 rfl hl (by decide) rfl (fun ls hl => ?_)
          refine lv_aload_n hx hb dX5_findMoments_42 rfl (lv_at hl 2 rfl) ?_
          refine lv_aload_n hx hb dX5_findMoments_43 rfl (lv_at hl 2 rfl) ?_
          refine va_get (D := (dC, dI)) (ci := 5) (v := .ref aon) (C := RX5) (T := TX5) (N := 25) hx hb hts hi5 hown hK hP 0 rfl rfl 14 (by decide) f39 (fun _ h9 => h9) rfl dX5_findMoments_44 ?_
          refine lv_iload_n hx hb dX5_findMoments_47 rfl (lv_at hl 1 rfl) ?_
          refine va_lald hx hb hK hP 1 0 rfl rfl (vp_in_nI (show 1 < 4 by omega) (by omega)) dX5_findMoments_48 ?_
          rw [show (nI 1).toNatClampNeg = 1 from nI_clamp (show 1 < 2 ^ 31 by omega)]
          refine lv_aload_n hx hb dX5_findMoments_49 rfl (lv_at hl 2 rfl) ?_
          refine va_get (D := (dC, dI)) (ci := 5) (v := .ref atw) (C := RX5) (T := TX5) (N := 25) hx hb hts hi5 hown hK hP 0 rfl rfl 15 (by decide) f42 (fun _ h9 => h9) rfl dX5_findMoments_50 ?_
          refine lv_iload_n hx hb dX5_findMoments_53 rfl (lv_at hl 1 rfl) ?_
          refine lv_iconst (v := (nI 2)) hx hb dX5_findMoments_54 (by decide) ?_
          refine lv_iadd hx hb dX5_findMoments_55 ?_
          rw [show (nI 1) + (nI 2) = (nI 3) from rfl]
          refine va_lald hx hb hK hP 2 0 rfl rfl (vp_in_nI (show 3 < 4 by omega) (by omega)) dX5_findMoments_56 ?_
          rw [show (nI 3).toNatClampNeg = 3 from nI_clamp (show 3 < 2 ^ 31 by omega)]
          refine lv_lload_n hx hb dX5_findMoments_57 rfl (lv_at hl 0 rfl) ?_
          refine kmVv (q0 := 0) (ci := 5) (As := [.long (fon 1), .long (ftw 3), .long my]) (rest := []) (WC := [(om, .inr (5, [.int (nI cd), .int (nI ns), .ref apx, .ref apy, .ref act, .int (nI nb), .ref asd, .ref amv, .ref asl, .ref apl, .ref asw, .int (nI nw), .ref aor, .int (nI nc), .ref aon, .ref atw, .long mx, .long my, .ref aup, .ref alw, .int (nI ((mAdd (mAdd (mAdd (mAdd (fup, flw, 0) 0 0 1) 0 1 1) (fon 0) (ftw 2) mx) (fon 2) (ftw 0) mx).2.2)), .long up, .long lo, .long rx, .long ry])), (aup, .inl (cJ, 12, .inr (.inl (mAdd (mAdd (mAdd (mAdd (fup, flw, 0) 0 0 1) 0 1 1) (fon 0) (ftw 2) mx) (fon 2) (ftw 0) mx).1))), (alw, .inl (cJ, 12, .inr (.inl (mAdd (mAdd (mAdd (mAdd (fup, flw, 0) 0 0 1) 0 1 1) (fon 0) (ftw 2) mx) (fon 2) (ftw 0) mx).2.1)))]) (W2 := [(om, .inr (5, [.int (nI cd), .int (nI ns), .ref apx, .ref apy, .ref act, .int (nI nb), .ref asd, .ref amv, .ref asl, .ref apl, .ref asw, .int (nI nw), .ref aor, .int (nI nc), .ref aon, .ref atw, .long mx, .long my, .ref aup, .ref alw, .int (nI ((mAdd (mAdd (mAdd (mAdd (mAdd (fup, flw, 0) 0 0 1) 0 1 1) (fon 0) (ftw 2) mx) (fon 2) (ftw 0) mx) (fon 1) (ftw 3) my).2.2)), .long up, .long lo, .long rx, .long ry])), (aup, .inl (cJ, 12, .inr (.inl (mAdd (mAdd (mAdd (mAdd (mAdd (fup, flw, 0) 0 0 1) 0 1 1) (fon 0) (ftw 2) mx) (fon 2) (ftw 0) mx) (fon 1) (ftw 3) my).1))), (alw, .inl (cJ, 12, .inr (.inl (mAdd (mAdd (mAdd (mAdd (mAdd (fup, flw, 0) 0 0 1) 0 1 1) (fon 0) (ftw 2) mx) (fon 2) (ftw 0) mx) (fon 1) (ftw 3) my).2.1)))]) (WR := [(aon, .inl (cJ, 4, .inr (.inl fon))), (atw, .inl (cJ, 4, .inr (.inl ftw)))]) (WN := [(om, .inr (5, [.int (nI cd), .int (nI ns), .ref apx, .ref apy, .ref act, .int (nI nb), .ref asd, .ref amv, .ref asl, .ref apl, .ref asw, .int (nI nw), .ref aor, .int (nI nc), .ref aon, .ref atw, .long mx, .long my, .ref aup, .ref alw, .int (nI ((mAdd (mAdd (mAdd (mAdd (mAdd (fup, flw, 0) 0 0 1) 0 1 1) (fon 0) (ftw 2) mx) (fon 2) (ftw 0) mx) (fon 1) (ftw 3) my).2.2)), .long up, .long lo, .long rx, .long ry])), (aon, .inl (cJ, 4, .inr (.inl fon))), (atw, .inl (cJ, 4, .inr (.inl ftw))), (aup, .inl (cJ, 12, .inr (.inl (mAdd (mAdd (mAdd (mAdd (mAdd (fup, flw, 0) 0 0 1) 0 1 1) (fon 0) (ftw 2) mx) (fon 2) (ftw 0) mx) (fon 1) (ftw 3) my).1))), (alw, .inl (cJ, 12, .inr (.inl (mAdd (mAdd (mAdd (mAdd (mAdd (fup, flw, 0) 0 0 1) 0 1 1) (fon 0) (ftw 2) mx) (fon 2) (ftw 0) mx) (fon 1) (ftw 3) my).2.1)))]) (tyC := [(cJ, .long), (cI, .int), (cZ, .boolean)]) (isC := [0, 3, 4]) (isR := [1, 2]) (isN := [2, 0, 1, 3, 4]) (its := [0, 1, 2]) ⟨hx, hb, hml, hown, hts⟩ (tX5_add l dC dI cJ cI cZ om cd ns apx apy act nb asd amv asl apl asw nw aor nc aon atw aup alw mx my up lo rx ry (mAdd (mAdd (mAdd (mAdd (fup, flw, 0) 0 0 1) 0 1 1) (fon 0) (ftw 2) mx) (fon 2) (ftw 0) mx) (fon 1) (ftw 3) my (Nat.lt_of_le_of_lt (mAdd_b (mAdd_b (mAdd_b (mAdd_b (Nat.le_refl 0))))) (by decide))) (cwV 3 hts gX5_findMoments_X5_add rfl rfl rfl (by decide +kernel) ⟨Nat.le_of_ble_eq_true rfl, Nat.le_of_ble_eq_true rfl⟩) hP hD hA hS hK rfl (by decide) rfl (by decide) (by decide) rfl (by decide) rfl rfl rfl rfl rfl hl.1 (Nat.le_of_ble_eq_true rfl) dX5_findMoments_58 ⟨Nat.le_of_ble_eq_true rfl, Nat.le_of_ble_eq_true rfl⟩ (fun H locs hP hD hS => ?_)
          refine lv_aload_n hx hb dX5_findMoments_61 rfl (lv_at hl 2 rfl) ?_
          refine lv_aload_n hx hb dX5_findMoments_62 rfl (lv_at hl 2 rfl) ?_
          refine va_get (D := (dC, dI)) (ci := 5) (v := .ref aon) (C := RX5) (T := TX5) (N := 25) hx hb hts hi5 hown hK hP 0 rfl rfl 14 (by decide) f39 (fun _ h9 => h9) rfl dX5_findMoments_63 ?_
          refine lv_iload_n hx hb dX5_findMoments_66 rfl (lv_at hl 1 rfl) ?_
          refine lv_iconst (v := (nI 2)) hx hb dX5_findMoments_67 (by decide) ?_
          refine lv_iadd hx hb dX5_findMoments_68 ?_
          rw [show (nI 1) + (nI 2) = (nI 3) from rfl]
          refine va_lald hx hb hK hP 1 0 rfl rfl (vp_in_nI (show 3 < 4 by omega) (by omega)) dX5_findMoments_69 ?_
          rw [show (nI 3).toNatClampNeg = 3 from nI_clamp (show 3 < 2 ^ 31 by omega)]
          refine lv_aload_n hx hb dX5_findMoments_70 rfl (lv_at hl 2 rfl) ?_
          refine va_get (D := (dC, dI)) (ci := 5) (v := .ref atw) (C := RX5) (T := TX5) (N := 25) hx hb hts hi5 hown hK hP 0 rfl rfl 15 (by decide) f42 (fun _ h9 => h9) rfl dX5_findMoments_71 ?_
          refine lv_iload_n hx hb dX5_findMoments_74 rfl (lv_at hl 1 rfl) ?_
          refine va_lald hx hb hK hP 2 0 rfl rfl (vp_in_nI (show 1 < 4 by omega) (by omega)) dX5_findMoments_75 ?_
          rw [show (nI 1).toNatClampNeg = 1 from nI_clamp (show 1 < 2 ^ 31 by omega)]
          refine lv_lload_n hx hb dX5_findMoments_76 rfl (lv_at hl 0 rfl) ?_
          refine kmVv (q0 := 0) (ci := 5) (As := [.long (fon 3), .long (ftw 1), .long my]) (rest := []) (WC := [(om, .inr (5, [.int (nI cd), .int (nI ns), .ref apx, .ref apy, .ref act, .int (nI nb), .ref asd, .ref amv, .ref asl, .ref apl, .ref asw, .int (nI nw), .ref aor, .int (nI nc), .ref aon, .ref atw, .long mx, .long my, .ref aup, .ref alw, .int (nI ((mAdd (mAdd (mAdd (mAdd (mAdd (fup, flw, 0) 0 0 1) 0 1 1) (fon 0) (ftw 2) mx) (fon 2) (ftw 0) mx) (fon 1) (ftw 3) my).2.2)), .long up, .long lo, .long rx, .long ry])), (aup, .inl (cJ, 12, .inr (.inl (mAdd (mAdd (mAdd (mAdd (mAdd (fup, flw, 0) 0 0 1) 0 1 1) (fon 0) (ftw 2) mx) (fon 2) (ftw 0) mx) (fon 1) (ftw 3) my).1))), (alw, .inl (cJ, 12, .inr (.inl (mAdd (mAdd (mAdd (mAdd (mAdd (fup, flw, 0) 0 0 1) 0 1 1) (fon 0) (ftw 2) mx) (fon 2) (ftw 0) mx) (fon 1) (ftw 3) my).2.1)))]) (W2 := [(om, .inr (5, [.int (nI cd), .int (nI ns), .ref apx, .ref apy, .ref act, .int (nI nb), .ref asd, .ref amv, .ref asl, .ref apl, .ref asw, .int (nI nw), .ref aor, .int (nI nc), .ref aon, .ref atw, .long mx, .long my, .ref aup, .ref alw, .int (nI ((mAdd (mAdd (mAdd (mAdd (mAdd (mAdd (fup, flw, 0) 0 0 1) 0 1 1) (fon 0) (ftw 2) mx) (fon 2) (ftw 0) mx) (fon 1) (ftw 3) my) (fon 3) (ftw 1) my).2.2)), .long up, .long lo, .long rx, .long ry])), (aup, .inl (cJ, 12, .inr (.inl (mAdd (mAdd (mAdd (mAdd (mAdd (mAdd (fup, flw, 0) 0 0 1) 0 1 1) (fon 0) (ftw 2) mx) (fon 2) (ftw 0) mx) (fon 1) (ftw 3) my) (fon 3) (ftw 1) my).1))), (alw, .inl (cJ, 12, .inr (.inl (mAdd (mAdd (mAdd (mAdd (mAdd (mAdd (fup, flw, 0) 0 0 1) 0 1 1) (fon 0) (ftw 2) mx) (fon 2) (ftw 0) mx) (fon 1) (ftw 3) my) (fon 3) (ftw 1) my).2.1)))]) (WR := [(aon, .inl (cJ, 4, .inr (.inl fon))), (atw, .inl (cJ, 4, .inr (.inl ftw)))]) (WN := [(om, .inr (5, [.int (nI cd), .int (nI ns), .ref apx, .ref apy, .ref act, .int (nI nb), .ref asd, .ref amv, .ref asl, .ref apl, .ref asw, .int (nI nw), .ref aor, .int (nI nc), .ref aon, .ref atw, .long mx, .long my, .ref aup, .ref alw, .int (nI ((mAdd (mAdd (mAdd (mAdd (mAdd (mAdd (fup, flw, 0) 0 0 1) 0 1 1) (fon 0) (ftw 2) mx) (fon 2) (ftw 0) mx) (fon 1) (ftw 3) my) (fon 3) (ftw 1) my).2.2)), .long up, .long lo, .long rx, .long ry])), (aon, .inl (cJ, 4, .inr (.inl fon))), (atw, .inl (cJ, 4, .inr (.inl ftw))), (aup, .inl (cJ, 12, .inr (.inl (mAdd (mAdd (mAdd (mAdd (mAdd (mAdd (fup, flw, 0) 0 0 1) 0 1 1) (fon 0) (ftw 2) mx) (fon 2) (ftw 0) mx) (fon 1) (ftw 3) my) (fon 3) (ftw 1) my).1))), (alw, .inl (cJ, 12, .inr (.inl (mAdd (mAdd (mAdd (mAdd (mAdd (mAdd (fup, flw, 0) 0 0 1) 0 1 1) (fon 0) (ftw 2) mx) (fon 2) (ftw 0) mx) (fon 1) (ftw 3) my) (fon 3) (ftw 1) my).2.1)))]) (tyC := [(cJ, .long), (cI, .int), (cZ, .boolean)]) (isC := [0, 3, 4]) (isR := [1, 2]) (isN := [2, 0, 1, 3, 4]) (its := [0, 1, 2]) ⟨hx, hb, hml, hown, hts⟩ (tX5_add l dC dI cJ cI cZ om cd ns apx apy act nb asd amv asl apl asw nw aor nc aon atw aup alw mx my up lo rx ry (mAdd (mAdd (mAdd (mAdd (mAdd (fup, flw, 0) 0 0 1) 0 1 1) (fon 0) (ftw 2) mx) (fon 2) (ftw 0) mx) (fon 1) (ftw 3) my) (fon 3) (ftw 1) my (Nat.lt_of_le_of_lt (mAdd_b (mAdd_b (mAdd_b (mAdd_b (mAdd_b (Nat.le_refl 0)))))) (by decide))) (cwV 3 hts gX5_findMoments_X5_add rfl rfl rfl (by decide +kernel) ⟨Nat.le_of_ble_eq_true rfl, Nat.le_of_ble_eq_true rfl⟩) hP hD hA hS hK rfl (by decide) rfl (by decide) (by decide) rfl (by decide) rfl rfl rfl rfl rfl hl.1 (Nat.le_of_ble_eq_true rfl) dX5_findMoments_77 ⟨Nat.le_of_ble_eq_true rfl, Nat.le_of_ble_eq_true rfl⟩ (fun H locs hP hD hS => ?_)
          refine lv_iinc (v := (nI 2)) (lv' := [(1, .int (nI 2)), (2, .long my), (0, .ref om)]) hx hb dX5_findMoments_80 hl (k := 1) rfl rfl (by decide) rfl (fun ls hl => ?_)
          refine lv_goto (tgt := 21) hx hb dX5_findMoments_83 (by decide) ?_
          refine lv_iload_n hx hb dX5_findMoments_21 rfl (lv_at hl 0 rfl) ?_
          refine lv_iconst (v := (nI 2)) hx hb dX5_findMoments_22 (by decide) ?_
          refine lv_icmp_ge (tgt := 86) hx hb dX5_findMoments_23 (by decide) (fun c23_3 => ?_) (fun c23_3 => ?_)
          · rw [nI_leI (by omega) (by omega)] at c23_3
            exact kEv hx hb hr hlocks hP hK hD hS dX5_findMoments_86
          · skip
            exact absurd c23_3 (by decide)
        · skip
          exact absurd c27_2 (by decide)
