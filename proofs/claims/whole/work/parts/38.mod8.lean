def mKeep (fpx fpy : Nat → Int64) (fr to a : Nat) : Prop := (¬ ∃ b, fr ≤ b ∧ b < a ∧ fpx a = fpx b ∧ fpy a = fpy b) ∧ ¬ mIn fpx fpy true (fpx a) (fpy a) fr to
/-- the corners among the first k points, as they come -/
noncomputable def mC1 (fpx fpy : Nat → Int64) (fr to : Nat) (od : Nat → Nat) : Nat → (Nat → Nat) × Nat
  | 0 => (od, 0)
  | k + 1 => if pB (mKeep fpx fpy fr to (fr + k)) then (va_up (mC1 fpx fpy fr to od k).1 (mC1 fpx fpy fr to od k).2 (fr + k), (mC1 fpx fpy fr to od k).2 + 1) else mC1 fpx fpy fr to od k
theorem mC1_y {fpx fpy : Nat → Int64} {fr to : Nat} {od : Nat → Nat} {k : Nat} (h : mKeep fpx fpy fr to (fr + k)) : mC1 fpx fpy fr to od (k + 1) = (va_up (mC1 fpx fpy fr to od k).1 (mC1 fpx fpy fr to od k).2 (fr + k), (mC1 fpx fpy fr to od k).2 + 1) := by rw [mC1, if_pos (pB_t h)]
theorem mC1_n {fpx fpy : Nat → Int64} {fr to : Nat} {od : Nat → Nat} {k : Nat} (h : ¬ mKeep fpx fpy fr to (fr + k)) : mC1 fpx fpy fr to od (k + 1) = mC1 fpx fpy fr to od k := by rw [mC1, if_neg (fun z => h (pB_iff.mp z))]
theorem mC1_le (fpx fpy : Nat → Int64) (fr to : Nat) (od : Nat → Nat) (k : Nat) : (mC1 fpx fpy fr to od k).2 ≤ k := by
  induction k with
  | zero => exact Nat.le_refl _
  | succ k ih =>
    by_cases h : mKeep fpx fpy fr to (fr + k)
    · rw [mC1_y h]; exact Nat.succ_le_succ ih
    · rw [mC1_n h]; omega
theorem mC1_bd (fpx fpy : Nat → Int64) (fr to : Nat) (od : Nat → Nat) (k : Nat) : ∀ i, i < (mC1 fpx fpy fr to od k).2 → (mC1 fpx fpy fr to od k).1 i < fr + k := by
  induction k with
  | zero => intro i h; exact absurd h (Nat.not_lt_zero i)
  | succ k ih =>
    by_cases h : mKeep fpx fpy fr to (fr + k)
    · rw [mC1_y h]; intro i hi
      show va_up _ _ _ i < _
      by_cases he : i = (mC1 fpx fpy fr to od k).2
      · rw [he, va_up_self]; omega
      · rw [va_up_ne _ _ he]; have := ih i (by have : i < (mC1 fpx fpy fr to od k).2 + 1 := hi; omega); omega
    · rw [mC1_n h]; intro i hi; have := ih i hi; omega
def mLess (fpx fpy : Nat → Int64) (a b : Nat) : Prop := fpx a < fpx b ∨ (fpx a = fpx b ∧ fpy a < fpy b)
/-- the least of the first j + 1 comes first -/
noncomputable def mC2 (fpx fpy : Nat → Int64) (o : Nat → Nat) : Nat → Nat → Nat
  | 0 => o
  | j + 1 => if pB (mLess fpx fpy (mC2 fpx fpy o j (j + 1)) (mC2 fpx fpy o j 0)) then va_up (va_up (mC2 fpx fpy o j) (j + 1) (mC2 fpx fpy o j 0)) 0 (mC2 fpx fpy o j (j + 1)) else mC2 fpx fpy o j
theorem mC2_y {fpx fpy : Nat → Int64} {o : Nat → Nat} {j : Nat} (h : mLess fpx fpy (mC2 fpx fpy o j (j + 1)) (mC2 fpx fpy o j 0)) : mC2 fpx fpy o (j + 1) = va_up (va_up (mC2 fpx fpy o j) (j + 1) (mC2 fpx fpy o j 0)) 0 (mC2 fpx fpy o j (j + 1)) := by rw [mC2, if_pos (pB_t h)]
theorem mC2_n {fpx fpy : Nat → Int64} {o : Nat → Nat} {j : Nat} (h : ¬ mLess fpx fpy (mC2 fpx fpy o j (j + 1)) (mC2 fpx fpy o j 0)) : mC2 fpx fpy o (j + 1) = mC2 fpx fpy o j := by rw [mC2, if_neg (fun z => h (pB_iff.mp z))]
theorem up_bd {g : Nat → Nat} {n M k v : Nat} (h : ∀ i, i < n → g i < M) (hv : v < M) : ∀ i, i < n → va_up g k v i < M := by
  intro i hi
  by_cases he : i = k
  · rw [he, va_up_self]; exact hv
  · rw [va_up_ne _ _ he]; exact h i hi
theorem mC2_bd {fpx fpy : Nat → Int64} {o : Nat → Nat} {n M : Nat} (h : ∀ i, i < n → o i < M) : ∀ j, j = 0 ∨ j < n → ∀ i, i < n → mC2 fpx fpy o j i < M
  | 0, _ => h
  | j + 1, hj => by
    have hj' : j + 1 < n := by omega
    have ih := mC2_bd (fpx := fpx) (fpy := fpy) h j (by omega)
    by_cases hc : mLess fpx fpy (mC2 fpx fpy o j (j + 1)) (mC2 fpx fpy o j 0)
    · rw [mC2_y hc]; exact up_bd (up_bd ih (ih 0 (by omega))) (ih (j + 1) hj')
    · rw [mC2_n hc]; exact ih
def mBef (fpx fpy : Nat → Int64) (f a b : Nat) : Prop := 0 < mTurn (fpx f) (fpy f) (fpx a) (fpy a) (fpx b) (fpy b)
noncomputable def mSrt (fpx fpy : Nat → Int64) (a : Nat) : Nat → (Nat → Nat) → (Nat → Nat)
  | 0, g => va_up g 0 a
  | k + 1, g => if pB (1 < k + 1 ∧ mBef fpx fpy (g 0) a (g k)) then mSrt fpx fpy a k (va_up g (k + 1) (g k)) else va_up g (k + 1) a
theorem mSrt_s {fpx fpy : Nat → Int64} {a k : Nat} {g : Nat → Nat} (h : 1 < k) (hb : mBef fpx fpy (g 0) a (g (k - 1))) : mSrt fpx fpy a k g = mSrt fpx fpy a (k - 1) (va_up g k (g (k - 1))) := by
  cases k with
  | zero => omega
  | succ k => simp only [Nat.add_sub_cancel] at hb ⊢; rw [mSrt, if_pos (pB_t ⟨h, hb⟩)]
theorem mSrt_e {fpx fpy : Nat → Int64} {a k : Nat} {g : Nat → Nat} (h : k ≤ 1 ∨ ¬ mBef fpx fpy (g 0) a (g (k - 1))) : mSrt fpx fpy a k g = va_up g k a := by
  cases k with
  | zero => rfl
  | succ k =>
    simp only [Nat.add_sub_cancel] at h
    rw [mSrt, if_neg (fun z => by obtain ⟨z1, z2⟩ := pB_iff.mp z; rcases h with h | h; omega; exact h z2)]
/-- the corners behind the first, counterclockwise about it -/
noncomputable def mC3 (fpx fpy : Nat → Int64) (o : Nat → Nat) : Nat → Nat → Nat
  | 0 => o
  | i + 1 => mSrt fpx fpy (mC3 fpx fpy o i (i + 1)) (i + 1) (mC3 fpx fpy o i)
theorem mSrt_bd {fpx fpy : Nat → Int64} {a n M : Nat} (ha : a < M) : ∀ (k : Nat) (g : Nat → Nat), k < n → (∀ i, i < n → g i < M) → ∀ i, i < n → mSrt fpx fpy a k g i < M
  | 0, g, _, h => by rw [mSrt]; exact up_bd h ha
  | k + 1, g, hk, h => by
    rw [mSrt]; split
    · exact mSrt_bd ha k _ (by omega) (up_bd h (h k (by omega)))
    · exact up_bd h ha
theorem mC3_bd {fpx fpy : Nat → Int64} {o : Nat → Nat} {n M : Nat} (h : ∀ i, i < n → o i < M) : ∀ j, j = 0 ∨ j < n → ∀ i, i < n → mC3 fpx fpy o j i < M
  | 0, _ => h
  | j + 1, hj => by
    have hj' : j + 1 < n := by omega
    have ih := mC3_bd (fpx := fpx) (fpy := fpy) h j (by omega)
    rw [mC3]; exact mSrt_bd (ih (j + 1) hj') (j + 1) _ hj' ih
set_option maxHeartbeats 4000000 in
set_option maxRecDepth 100000 in
theorem tX5_findCorners (l : Launch) (dC : Nat → ClassId) (dI : Nat → Nat → Nat) (cJ cI cZ : ClassId) (om cd ns apx apy act nb asd amv asl apl asw nw aor nc aon atw aup alw nm : Nat) (mx my up lo rx ry : Int64) (fpx : Nat → Int64) (fpy : Nat → Int64) (ct : Nat → Nat) (od : Nat → Nat) (s_ : Nat) (hs : s_ < 16) (hc : ct s_ ≤ 16) : MMv l yX5_findCorners wsX5_findCorners { frames := 3, cells := 0, slots := 0, locals := 95 } [.ref om, .int (nI s_)] (dC, dI) [(om, .inr (5, [.int (nI cd), .int (nI ns), .ref apx, .ref apy, .ref act, .int (nI nb), .ref asd, .ref amv, .ref asl, .ref apl, .ref asw, .int (nI nw), .ref aor, .int (nI nc), .ref aon, .ref atw, .long mx, .long my, .ref aup, .ref alw, .int (nI nm), .long up, .long lo, .long rx, .long ry])), (apx, .inl (cJ, 256, .inr (.inl fpx))), (apy, .inl (cJ, 256, .inr (.inl fpy))), (act, .inl (cI, 16, .inl (nF ct))), (aor, .inl (cI, 16, .inl (nF od)))] [(om, .inr (5, [.int (nI cd), .int (nI ns), .ref apx, .ref apy, .ref act, .int (nI nb), .ref asd, .ref amv, .ref asl, .ref apl, .ref asw, .int (nI nw), .ref aor, .int (nI ((mC1 fpx fpy (16 * s_) (16 * s_ + ct s_) od (ct s_)).2)), .ref aon, .ref atw, .long mx, .long my, .ref aup, .ref alw, .int (nI nm), .long up, .long lo, .long rx, .long ry])), (apx, .inl (cJ, 256, .inr (.inl fpx))), (apy, .inl (cJ, 256, .inr (.inl fpy))), (act, .inl (cI, 16, .inl (nF ct))), (aor, .inl (cI, 16, .inl (nF (mC3 fpx fpy (mC2 fpx fpy (mC1 fpx fpy (16 * s_) (16 * s_ + ct s_) od (ct s_)).1 ((mC1 fpx fpy (16 * s_) (16 * s_ + ct s_) od (ct s_)).2 - 1)) ((mC1 fpx fpy (16 * s_) (16 * s_ + ct s_) od (ct s_)).2 - 1)))))] [(cJ, .long), (cI, .int), (cZ, .boolean)] := by
  intro sz
  refine kOf (cc := cX5_findCorners) (maxL := 5) (ret := none) (by decide) rfl (Nat.le_of_ble_eq_true rfl) ?_
  intro p e s m below meth c hx hb hr hml hts hown hlocks hB ls hl
  obtain ⟨hsz, hP, hK, hD0⟩ := hB
  subst hsz
  have hD := hD0.self (sz := s.heap.size)
  generalize hAe : va_A [(om, .inr (5, [.int (nI cd), .int (nI ns), .ref apx, .ref apy, .ref act, .int (nI nb), .ref asd, .ref amv, .ref asl, .ref apl, .ref asw, .int (nI nw), .ref aor, .int (nI nc), .ref aon, .ref atw, .long mx, .long my, .ref aup, .ref alw, .int (nI nm), .long up, .long lo, .long rx, .long ry])), (apx, .inl (cJ, 256, .inr (.inl fpx))), (apy, .inl (cJ, 256, .inr (.inl fpy))), (act, .inl (cI, 16, .inl (nF ct))), (aor, .inl (cI, 16, .inl (nF od)))] s.heap.size = A at hD ⊢
  have hA : ∀ q : Nat, s.heap.size ≤ q → A q := fun q h => by rw [← hAe]; exact Or.inr h
  have hS : va_S A s.heap s.heap [] := va_S.rf
  have hl : lv_has ls 5 [(0, .ref om), (1, .int (nI s_))] := hl
  have hi5 : ∀ w ∈ u_ws RX5 TX5 25, w ∈ wsX5_findCorners := by decide +kernel
  have f7 := hts (.fieldLink RX5 7 "SweptBoxesModel" "px" "[J") (by decide +kernel)
  have f13 := hts (.fieldLink RX5 13 "SweptBoxesModel" "py" "[J") (by decide +kernel)
  have f16 := hts (.fieldLink RX5 16 "SweptBoxesModel" "counts" "[I") (by decide +kernel)
  have f36 := hts (.fieldLink RX5 36 "SweptBoxesModel" "order" "[I") (by decide +kernel)
  have f103 := hts (.fieldLink RX5 103 "SweptBoxesModel" "cornerCount" "I") (by decide +kernel)
  refine lv_aload_n hx hb dX5_findCorners_0 rfl (lv_at hl 0 rfl) ?_
  refine lv_iconst (v := (nI 0)) hx hb dX5_findCorners_1 (by decide) ?_
  refine va_put (D := (dC, dI)) (ci := 5) (v := .int (nI 0)) (ty := .int) (C := RX5) (T := TX5) (N := 25) hx hb hts hi5 tyX5 tyX5_ok nmX5 hown hK hP hD hS 0 rfl rfl 13 (by decide) f103 (fun _ h9 => h9) rfl (by decide +kernel) rfl rfl (Nat.le_of_ble_eq_true rfl) dX5_findCorners_2 (fun H locs hP hD hS => ?_)
  have hP : va_P (dC, dI) vwCl [(om, .inr (5, [.int (nI cd), .int (nI ns), .ref apx, .ref apy, .ref act, .int (nI nb), .ref asd, .ref amv, .ref asl, .ref apl, .ref asw, .int (nI nw), .ref aor, .int (nI 0), .ref aon, .ref atw, .long mx, .long my, .ref aup, .ref alw, .int (nI nm), .long up, .long lo, .long rx, .long ry])), (apx, .inl (cJ, 256, .inr (.inl fpx))), (apy, .inl (cJ, 256, .inr (.inl fpy))), (act, .inl (cI, 16, .inl (nF ct))), (aor, .inl (cI, 16, .inl (nF od)))] H := hP
  have hD : va_D A [(om, .inr (5, [.int (nI cd), .int (nI ns), .ref apx, .ref apy, .ref act, .int (nI nb), .ref asd, .ref amv, .ref asl, .ref apl, .ref asw, .int (nI nw), .ref aor, .int (nI 0), .ref aon, .ref atw, .long mx, .long my, .ref aup, .ref alw, .int (nI nm), .long up, .long lo, .long rx, .long ry])), (apx, .inl (cJ, 256, .inr (.inl fpx))), (apy, .inl (cJ, 256, .inr (.inl fpy))), (act, .inl (cI, 16, .inl (nF ct))), (aor, .inl (cI, 16, .inl (nF od)))] := hD
  refine lv_bipush (v := (nI 16)) hx hb dX5_findCorners_5 (by decide) ?_
  refine lv_iload_n hx hb dX5_findCorners_7 rfl (lv_at hl 1 rfl) ?_
  refine lv_imul hx hb dX5_findCorners_8 ?_
  rw [show (nI 16) * (nI s_) = (nI (16 * s_)) from pk_mul 16 s_]
  refine lv_istore_n (lv' := [(2, .int (nI (16 * s_))), (0, .ref om), (1, .int (nI s_))]) hx hb dX5_findCorners_9 rfl hl (by decide) rfl (fun ls hl => ?_)
  refine kLoop (σ := Nat) (fun xz H locs ls => match xz with | k => (va_P (dC, dI) vwCl [(om, .inr (5, [.int (nI cd), .int (nI ns), .ref apx, .ref apy, .ref act, .int (nI nb), .ref asd, .ref amv, .ref asl, .ref apl, .ref asw, .int (nI nw), .ref aor, .int (nI (mC1 fpx fpy (16 * s_) (16 * s_ + ct s_) od k).2), .ref aon, .ref atw, .long mx, .long my, .ref aup, .ref alw, .int (nI nm), .long up, .long lo, .long rx, .long ry])), (apx, .inl (cJ, 256, .inr (.inl fpx))), (apy, .inl (cJ, 256, .inr (.inl fpy))), (act, .inl (cI, 16, .inl (nF ct))), (aor, .inl (cI, 16, .inl (nF (mC1 fpx fpy (16 * s_) (16 * s_ + ct s_) od k).1)))] H) ∧ (va_D A [(om, .inr (5, [.int (nI cd), .int (nI ns), .ref apx, .ref apy, .ref act, .int (nI nb), .ref asd, .ref amv, .ref asl, .ref apl, .ref asw, .int (nI nw), .ref aor, .int (nI (mC1 fpx fpy (16 * s_) (16 * s_ + ct s_) od k).2), .ref aon, .ref atw, .long mx, .long my, .ref aup, .ref alw, .int (nI nm), .long up, .long lo, .long rx, .long ry])), (apx, .inl (cJ, 256, .inr (.inl fpx))), (apy, .inl (cJ, 256, .inr (.inl fpy))), (act, .inl (cI, 16, .inl (nF ct))), (aor, .inl (cI, 16, .inl (nF (mC1 fpx fpy (16 * s_) (16 * s_ + ct s_) od k).1)))]) ∧ (va_S A s.heap H locs) ∧ (lv_has ls 5 [(0, .ref om), (1, .int (nI s_)), (2, .int (nI (16 * s_ + k)))]) ∧ (k ≤ ct s_)) (fun xz => match xz with | k => ct s_ - k) ?_ (0) ?_
  · rintro k H locs ls hI ih10
    obtain ⟨hP, hD, hS, hl, hi10_⟩ := hI
    have hc1 := mC1_le fpx fpy (16 * s_) (16 * s_ + ct s_) od k
    refine lv_iload_n hx hb dX5_findCorners_10 rfl (lv_at hl 2 rfl) ?_
    refine lv_bipush (v := (nI 16)) hx hb dX5_findCorners_11 (by decide) ?_
    refine lv_iload_n hx hb dX5_findCorners_13 rfl (lv_at hl 1 rfl) ?_
    refine lv_imul hx hb dX5_findCorners_14 ?_
    rw [show (nI 16) * (nI s_) = (nI (16 * s_)) from pk_mul 16 s_]
    refine lv_aload_n hx hb dX5_findCorners_15 rfl (lv_at hl 0 rfl) ?_
    refine va_get (D := (dC, dI)) (ci := 5) (v := .ref act) (C := RX5) (T := TX5) (N := 25) hx hb hts hi5 hown hK hP 0 rfl rfl 4 (by decide) f16 (fun _ h9 => h9) rfl dX5_findCorners_16 ?_
    refine lv_iload_n hx hb dX5_findCorners_19 rfl (lv_at hl 1 rfl) ?_
    refine va_iald hx hb hK hP 3 1 rfl rfl (vp_in_nI (show s_ < 16 by omega) (by omega)) dX5_findCorners_20 ?_
    rw [show (nI s_).toNatClampNeg = s_ from nI_clamp (show s_ < 2 ^ 31 by omega)]
    rw [show (nF ct) s_ = (nI (ct s_)) from rfl]
    refine lv_iadd hx hb dX5_findCorners_21 ?_
    rw [show (nI (16 * s_)) + (nI (ct s_)) = (nI (((16 * s_)) + ((ct s_)))) from nI_add ((16 * s_)) ((ct s_))]
    refine lv_icmp_ge (tgt := 140) hx hb dX5_findCorners_22 (by decide) (fun c22 => ?_) (fun c22 => ?_)
    · rw [nI_leI (by omega) (by omega)] at c22
      have hkc : k = ct s_ := by omega
      rw [hkc] at hP hD hl
      have hn1 := mC1_le fpx fpy (16 * s_) (16 * s_ + ct s_) od (ct s_)
      have hb1 : ∀ i, i < (mC1 fpx fpy (16 * s_) (16 * s_ + ct s_) od (ct s_)).2 → (mC1 fpx fpy (16 * s_) (16 * s_ + ct s_) od (ct s_)).1 i < 256 := fun i hi => by have := mC1_bd fpx fpy (16 * s_) (16 * s_ + ct s_) od (ct s_) i hi; omega
      refine lv_iconst (v := (nI 1)) hx hb dX5_findCorners_140 (by decide) ?_
      refine lv_istore_n (lv' := [(2, .int (nI 1)), (0, .ref om), (1, .int (nI s_))]) hx hb dX5_findCorners_141 rfl hl (by decide) rfl (fun ls hl => ?_)
      refine kLoop (σ := Nat) (fun xz H locs ls => match xz with | j => (va_P (dC, dI) vwCl [(om, .inr (5, [.int (nI cd), .int (nI ns), .ref apx, .ref apy, .ref act, .int (nI nb), .ref asd, .ref amv, .ref asl, .ref apl, .ref asw, .int (nI nw), .ref aor, .int (nI (mC1 fpx fpy (16 * s_) (16 * s_ + ct s_) od (ct s_)).2), .ref aon, .ref atw, .long mx, .long my, .ref aup, .ref alw, .int (nI nm), .long up, .long lo, .long rx, .long ry])), (apx, .inl (cJ, 256, .inr (.inl fpx))), (apy, .inl (cJ, 256, .inr (.inl fpy))), (act, .inl (cI, 16, .inl (nF ct))), (aor, .inl (cI, 16, .inl (nF (mC2 fpx fpy (mC1 fpx fpy (16 * s_) (16 * s_ + ct s_) od (ct s_)).1 j))))] H) ∧ (va_D A [(om, .inr (5, [.int (nI cd), .int (nI ns), .ref apx, .ref apy, .ref act, .int (nI nb), .ref asd, .ref amv, .ref asl, .ref apl, .ref asw, .int (nI nw), .ref aor, .int (nI (mC1 fpx fpy (16 * s_) (16 * s_ + ct s_) od (ct s_)).2), .ref aon, .ref atw, .long mx, .long my, .ref aup, .ref alw, .int (nI nm), .long up, .long lo, .long rx, .long ry])), (apx, .inl (cJ, 256, .inr (.inl fpx))), (apy, .inl (cJ, 256, .inr (.inl fpy))), (act, .inl (cI, 16, .inl (nF ct))), (aor, .inl (cI, 16, .inl (nF (mC2 fpx fpy (mC1 fpx fpy (16 * s_) (16 * s_ + ct s_) od (ct s_)).1 j))))]) ∧ (va_S A s.heap H locs) ∧ (lv_has ls 5 [(0, .ref om), (1, .int (nI s_)), (2, .int (nI (j + 1)))]) ∧ (j = 0 ∨ j < (mC1 fpx fpy (16 * s_) (16 * s_ + ct s_) od (ct s_)).2)) (fun xz => match xz with | j => (mC1 fpx fpy (16 * s_) (16 * s_ + ct s_) od (ct s_)).2 - j) ?_ (0) ?_
      · rintro j H locs ls hI ih142
        obtain ⟨hP, hD, hS, hl, hi142_⟩ := hI
        have hbj := mC2_bd (fpx := fpx) (fpy := fpy) hb1 j hi142_
        refine lv_iload_n hx hb dX5_findCorners_142 rfl (lv_at hl 2 rfl) ?_
        refine lv_aload_n hx hb dX5_findCorners_143 rfl (lv_at hl 0 rfl) ?_
        refine va_get (D := (dC, dI)) (ci := 5) (v := .int (nI (mC1 fpx fpy (16 * s_) (16 * s_ + ct s_) od (ct s_)).2)) (C := RX5) (T := TX5) (N := 25) hx hb hts hi5 hown hK hP 0 rfl rfl 13 (by decide) f103 (fun _ h9 => h9) rfl dX5_findCorners_144 ?_
        refine lv_icmp_ge (tgt := 237) hx hb dX5_findCorners_147 (by decide) (fun c147 => ?_) (fun c147 => ?_)
        · rw [nI_leI (by omega) (by omega)] at c147
          have hjc : j = (mC1 fpx fpy (16 * s_) (16 * s_ + ct s_) od (ct s_)).2 - 1 := by omega
          rw [hjc] at hP hD hl
          have hb2 : ∀ i, i < (mC1 fpx fpy (16 * s_) (16 * s_ + ct s_) od (ct s_)).2 → (mC2 fpx fpy (mC1 fpx fpy (16 * s_) (16 * s_ + ct s_) od (ct s_)).1 ((mC1 fpx fpy (16 * s_) (16 * s_ + ct s_) od (ct s_)).2 - 1)) i < 256 := by rcases Nat.eq_zero_or_pos (mC1 fpx fpy (16 * s_) (16 * s_ + ct s_) od (ct s_)).2 with h0 | h0; (intro i hi; omega); exact mC2_bd hb1 _ (by omega)
          refine lv_iconst (v := (nI 1)) hx hb dX5_findCorners_237 (by decide) ?_
          refine lv_istore_n (lv' := [(2, .int (nI 1)), (0, .ref om), (1, .int (nI s_))]) hx hb dX5_findCorners_238 rfl hl (by decide) rfl (fun ls hl => ?_)
          refine kLoop (σ := Nat) (fun xz H locs ls => match xz with | i => (va_P (dC, dI) vwCl [(om, .inr (5, [.int (nI cd), .int (nI ns), .ref apx, .ref apy, .ref act, .int (nI nb), .ref asd, .ref amv, .ref asl, .ref apl, .ref asw, .int (nI nw), .ref aor, .int (nI (mC1 fpx fpy (16 * s_) (16 * s_ + ct s_) od (ct s_)).2), .ref aon, .ref atw, .long mx, .long my, .ref aup, .ref alw, .int (nI nm), .long up, .long lo, .long rx, .long ry])), (apx, .inl (cJ, 256, .inr (.inl fpx))), (apy, .inl (cJ, 256, .inr (.inl fpy))), (act, .inl (cI, 16, .inl (nF ct))), (aor, .inl (cI, 16, .inl (nF (mC3 fpx fpy (mC2 fpx fpy (mC1 fpx fpy (16 * s_) (16 * s_ + ct s_) od (ct s_)).1 ((mC1 fpx fpy (16 * s_) (16 * s_ + ct s_) od (ct s_)).2 - 1)) i))))] H) ∧ (va_D A [(om, .inr (5, [.int (nI cd), .int (nI ns), .ref apx, .ref apy, .ref act, .int (nI nb), .ref asd, .ref amv, .ref asl, .ref apl, .ref asw, .int (nI nw), .ref aor, .int (nI (mC1 fpx fpy (16 * s_) (16 * s_ + ct s_) od (ct s_)).2), .ref aon, .ref atw, .long mx, .long my, .ref aup, .ref alw, .int (nI nm), .long up, .long lo, .long rx, .long ry])), (apx, .inl (cJ, 256, .inr (.inl fpx))), (apy, .inl (cJ, 256, .inr (.inl fpy))), (act, .inl (cI, 16, .inl (nF ct))), (aor, .inl (cI, 16, .inl (nF (mC3 fpx fpy (mC2 fpx fpy (mC1 fpx fpy (16 * s_) (16 * s_ + ct s_) od (ct s_)).1 ((mC1 fpx fpy (16 * s_) (16 * s_ + ct s_) od (ct s_)).2 - 1)) i))))]) ∧ (va_S A s.heap H locs) ∧ (lv_has ls 5 [(0, .ref om), (1, .int (nI s_)), (2, .int (nI (i + 1)))]) ∧ (i = 0 ∨ i < (mC1 fpx fpy (16 * s_) (16 * s_ + ct s_) od (ct s_)).2)) (fun xz => match xz with | i => (mC1 fpx fpy (16 * s_) (16 * s_ + ct s_) od (ct s_)).2 - i) ?_ (0) ?_
          · rintro i H locs ls hI ih239
            obtain ⟨hP, hD, hS, hl, hi239_⟩ := hI
            have hbi := mC3_bd (fpx := fpx) (fpy := fpy) hb2 i hi239_
            refine lv_iload_n hx hb dX5_findCorners_239 rfl (lv_at hl 2 rfl) ?_
            refine lv_aload_n hx hb dX5_findCorners_240 rfl (lv_at hl 0 rfl) ?_
            refine va_get (D := (dC, dI)) (ci := 5) (v := .int (nI (mC1 fpx fpy (16 * s_) (16 * s_ + ct s_) od (ct s_)).2)) (C := RX5) (T := TX5) (N := 25) hx hb hts hi5 hown hK hP 0 rfl rfl 13 (by decide) f103 (fun _ h9 => h9) rfl dX5_findCorners_241 ?_
            refine lv_icmp_ge (tgt := 316) hx hb dX5_findCorners_244 (by decide) (fun c244 => ?_) (fun c244 => ?_)
            · rw [nI_leI (by omega) (by omega)] at c244
              have hic : i = (mC1 fpx fpy (16 * s_) (16 * s_ + ct s_) od (ct s_)).2 - 1 := by omega
              rw [hic] at hP hD hl
              exact kEv hx hb hr hlocks hP hK hD hS dX5_findCorners_316
            · rw [nI_leI (by omega) (by omega), Nat.not_le] at c244
              have hq1 := hbi (i + 1) c244
              refine lv_aload_n hx hb dX5_findCorners_247 rfl (lv_at hl 0 rfl) ?_
              refine va_get (D := (dC, dI)) (ci := 5) (v := .ref aor) (C := RX5) (T := TX5) (N := 25) hx hb hts hi5 hown hK hP 0 rfl rfl 12 (by decide) f36 (fun _ h9 => h9) rfl dX5_findCorners_248 ?_
              refine lv_iload_n hx hb dX5_findCorners_251 rfl (lv_at hl 2 rfl) ?_
              refine va_iald hx hb hK hP 4 1 rfl rfl (vp_in_nI (show (i + 1) < 16 by omega) (by omega)) dX5_findCorners_252 ?_
              rw [show (nI (i + 1)).toNatClampNeg = (i + 1) from nI_clamp (show (i + 1) < 2 ^ 31 by omega)]
              rw [show (nF (mC3 fpx fpy (mC2 fpx fpy (mC1 fpx fpy (16 * s_) (16 * s_ + ct s_) od (ct s_)).1 ((mC1 fpx fpy (16 * s_) (16 * s_ + ct s_) od (ct s_)).2 - 1)) i)) ((i + 1)) = (nI ((mC3 fpx fpy (mC2 fpx fpy (mC1 fpx fpy (16 * s_) (16 * s_ + ct s_) od (ct s_)).1 ((mC1 fpx fpy (16 * s_) (16 * s_ + ct s_) od (ct s_)).2 - 1)) i) ((i + 1)))) from rfl]
              refine lv_istore_n (lv' := [(3, .int (nI ((mC3 fpx fpy (mC2 fpx fpy (mC1 fpx fpy (16 * s_) (16 * s_ + ct s_) od (ct s_)).1 ((mC1 fpx fpy (16 * s_) (16 * s_ + ct s_) od (ct s_)).2 - 1)) i) ((i + 1))))), (0, .ref om), (1, .int (nI s_)), (2, .int (nI (i + 1)))]) hx hb dX5_findCorners_253 rfl hl (by decide) rfl (fun ls hl => ?_)
              refine lv_iload_n hx hb dX5_findCorners_254 rfl (lv_at hl 3 rfl) ?_
              refine lv_istore (lv' := [(4, .int (nI (i + 1))), (3, .int (nI ((mC3 fpx fpy (mC2 fpx fpy (mC1 fpx fpy (16 * s_) (16 * s_ + ct s_) od (ct s_)).1 ((mC1 fpx fpy (16 * s_) (16 * s_ + ct s_) od (ct s_)).2 - 1)) i) ((i + 1))))), (0, .ref om), (1, .int (nI s_)), (2, .int (nI (i + 1)))]) hx hb dX5_findCorners_255 hl (by decide) rfl (fun ls hl => ?_)
              refine kLoop (σ := Nat × (Nat → Nat)) (fun xz H locs ls => match xz with | (kk, g) => (va_P (dC, dI) vwCl [(om, .inr (5, [.int (nI cd), .int (nI ns), .ref apx, .ref apy, .ref act, .int (nI nb), .ref asd, .ref amv, .ref asl, .ref apl, .ref asw, .int (nI nw), .ref aor, .int (nI (mC1 fpx fpy (16 * s_) (16 * s_ + ct s_) od (ct s_)).2), .ref aon, .ref atw, .long mx, .long my, .ref aup, .ref alw, .int (nI nm), .long up, .long lo, .long rx, .long ry])), (apx, .inl (cJ, 256, .inr (.inl fpx))), (apy, .inl (cJ, 256, .inr (.inl fpy))), (act, .inl (cI, 16, .inl (nF ct))), (aor, .inl (cI, 16, .inl (nF g)))] H) ∧ (va_D A [(om, .inr (5, [.int (nI cd), .int (nI ns), .ref apx, .ref apy, .ref act, .int (nI nb), .ref asd, .ref amv, .ref asl, .ref apl, .ref asw, .int (nI nw), .ref aor, .int (nI (mC1 fpx fpy (16 * s_) (16 * s_ + ct s_) od (ct s_)).2), .ref aon, .ref atw, .long mx, .long my, .ref aup, .ref alw, .int (nI nm), .long up, .long lo, .long rx, .long ry])), (apx, .inl (cJ, 256, .inr (.inl fpx))), (apy, .inl (cJ, 256, .inr (.inl fpy))), (act, .inl (cI, 16, .inl (nF ct))), (aor, .inl (cI, 16, .inl (nF g)))]) ∧ (va_S A s.heap H locs) ∧ (lv_has ls 5 [(0, .ref om), (1, .int (nI s_)), (2, .int (nI (i + 1))), (3, .int (nI ((mC3 fpx fpy (mC2 fpx fpy (mC1 fpx fpy (16 * s_) (16 * s_ + ct s_) od (ct s_)).1 ((mC1 fpx fpy (16 * s_) (16 * s_ + ct s_) od (ct s_)).2 - 1)) i) (i + 1)))), (4, .int (nI kk))]) ∧ (1 ≤ kk ∧ kk ≤ i + 1 ∧ mSrt fpx fpy ((mC3 fpx fpy (mC2 fpx fpy (mC1 fpx fpy (16 * s_) (16 * s_ + ct s_) od (ct s_)).1 ((mC1 fpx fpy (16 * s_) (16 * s_ + ct s_) od (ct s_)).2 - 1)) i) (i + 1)) kk g = mSrt fpx fpy ((mC3 fpx fpy (mC2 fpx fpy (mC1 fpx fpy (16 * s_) (16 * s_ + ct s_) od (ct s_)).1 ((mC1 fpx fpy (16 * s_) (16 * s_ + ct s_) od (ct s_)).2 - 1)) i) (i + 1)) (i + 1) (mC3 fpx fpy (mC2 fpx fpy (mC1 fpx fpy (16 * s_) (16 * s_ + ct s_) od (ct s_)).1 ((mC1 fpx fpy (16 * s_) (16 * s_ + ct s_) od (ct s_)).2 - 1)) i) ∧ ∀ x, x < (mC1 fpx fpy (16 * s_) (16 * s_ + ct s_) od (ct s_)).2 → g x < 256)) (fun xz => match xz with | (kk, g) => kk) ?_ (i + 1, (mC3 fpx fpy (mC2 fpx fpy (mC1 fpx fpy (16 * s_) (16 * s_ + ct s_) od (ct s_)).1 ((mC1 fpx fpy (16 * s_) (16 * s_ + ct s_) od (ct s_)).2 - 1)) i)) ?_
              · rintro ⟨kk, g⟩ H locs ls hI ih257
                obtain ⟨hP, hD, hS, hl, hi257_⟩ := hI
                obtain ⟨hk1, hk2, hG, hgb⟩ := hi257_
                refine lv_iload hx hb dX5_findCorners_257 (lv_at hl 4 rfl) ?_
                refine lv_iconst (v := (nI 1)) hx hb dX5_findCorners_259 (by decide) ?_
                refine lv_icmp_le (tgt := 302) hx hb dX5_findCorners_260 (by decide) (fun c260 => ?_) (fun c260 => ?_)
                · rw [nI_leI (by omega) (by omega)] at c260
                  refine lv_aload_n hx hb dX5_findCorners_302 rfl (lv_at hl 0 rfl) ?_
                  refine va_get (D := (dC, dI)) (ci := 5) (v := .ref aor) (C := RX5) (T := TX5) (N := 25) hx hb hts hi5 hown hK hP 0 rfl rfl 12 (by decide) f36 (fun _ h9 => h9) rfl dX5_findCorners_303 ?_
                  refine lv_iload hx hb dX5_findCorners_306 (lv_at hl 4 rfl) ?_
                  refine lv_iload_n hx hb dX5_findCorners_308 rfl (lv_at hl 3 rfl) ?_
                  refine va_iast hx hb hK hP hD hS 4 1 rfl rfl (vp_in_nI (show kk < 16 by omega) (by omega)) dX5_findCorners_309 (fun H locs hP hD hS => ?_)
                  rw [show (nI kk).toNatClampNeg = kk from nI_clamp (show kk < 2 ^ 31 by omega)] at hP hD
                  rw [show upd (nF g) kk (nI ((mC3 fpx fpy (mC2 fpx fpy (mC1 fpx fpy (16 * s_) (16 * s_ + ct s_) od (ct s_)).1 ((mC1 fpx fpy (16 * s_) (16 * s_ + ct s_) od (ct s_)).2 - 1)) i) (i + 1))) = (nF (va_up g kk (((mC3 fpx fpy (mC2 fpx fpy (mC1 fpx fpy (16 * s_) (16 * s_ + ct s_) od (ct s_)).1 ((mC1 fpx fpy (16 * s_) (16 * s_ + ct s_) od (ct s_)).2 - 1)) i) (i + 1))))) from nF_upd _ _ _] at hP hD
                  have hP : va_P (dC, dI) vwCl [(om, .inr (5, [.int (nI cd), .int (nI ns), .ref apx, .ref apy, .ref act, .int (nI nb), .ref asd, .ref amv, .ref asl, .ref apl, .ref asw, .int (nI nw), .ref aor, .int (nI (mC1 fpx fpy (16 * s_) (16 * s_ + ct s_) od (ct s_)).2), .ref aon, .ref atw, .long mx, .long my, .ref aup, .ref alw, .int (nI nm), .long up, .long lo, .long rx, .long ry])), (apx, .inl (cJ, 256, .inr (.inl fpx))), (apy, .inl (cJ, 256, .inr (.inl fpy))), (act, .inl (cI, 16, .inl (nF ct))), (aor, .inl (cI, 16, .inl (nF (va_up g kk (((mC3 fpx fpy (mC2 fpx fpy (mC1 fpx fpy (16 * s_) (16 * s_ + ct s_) od (ct s_)).1 ((mC1 fpx fpy (16 * s_) (16 * s_ + ct s_) od (ct s_)).2 - 1)) i) (i + 1)))))))] H := hP
                  have hD : va_D A [(om, .inr (5, [.int (nI cd), .int (nI ns), .ref apx, .ref apy, .ref act, .int (nI nb), .ref asd, .ref amv, .ref asl, .ref apl, .ref asw, .int (nI nw), .ref aor, .int (nI (mC1 fpx fpy (16 * s_) (16 * s_ + ct s_) od (ct s_)).2), .ref aon, .ref atw, .long mx, .long my, .ref aup, .ref alw, .int (nI nm), .long up, .long lo, .long rx, .long ry])), (apx, .inl (cJ, 256, .inr (.inl fpx))), (apy, .inl (cJ, 256, .inr (.inl fpy))), (act, .inl (cI, 16, .inl (nF ct))), (aor, .inl (cI, 16, .inl (nF (va_up g kk (((mC3 fpx fpy (mC2 fpx fpy (mC1 fpx fpy (16 * s_) (16 * s_ + ct s_) od (ct s_)).1 ((mC1 fpx fpy (16 * s_) (16 * s_ + ct s_) od (ct s_)).2 - 1)) i) (i + 1)))))))] := hD
                  refine lv_iinc (v := (nI ((i + 1) + 1))) (lv' := [(2, .int (nI ((i + 1) + 1))), (0, .ref om), (1, .int (nI s_)), (3, .int (nI ((mC3 fpx fpy (mC2 fpx fpy (mC1 fpx fpy (16 * s_) (16 * s_ + ct s_) od (ct s_)).1 ((mC1 fpx fpy (16 * s_) (16 * s_ + ct s_) od (ct s_)).2 - 1)) i) (i + 1)))), (4, .int (nI kk))]) hx hb dX5_findCorners_310 hl (k := 2) rfl (show (nI (i + 1)) + Int32.ofInt 1 = nI ((i + 1) + 1) from nI_add ((i + 1)) 1) (by decide) rfl (fun ls hl => ?_)
                  refine lv_goto (tgt := 239) hx hb dX5_findCorners_313 (by decide) ?_
                  have hE : (mC3 fpx fpy (mC2 fpx fpy (mC1 fpx fpy (16 * s_) (16 * s_ + ct s_) od (ct s_)).1 ((mC1 fpx fpy (16 * s_) (16 * s_ + ct s_) od (ct s_)).2 - 1)) (i + 1)) = va_up g kk ((mC3 fpx fpy (mC2 fpx fpy (mC1 fpx fpy (16 * s_) (16 * s_ + ct s_) od (ct s_)).1 ((mC1 fpx fpy (16 * s_) (16 * s_ + ct s_) od (ct s_)).2 - 1)) i) (i + 1)) := by rw [← mSrt_e (fpx := fpx) (fpy := fpy) (a := (mC3 fpx fpy (mC2 fpx fpy (mC1 fpx fpy (16 * s_) (16 * s_ + ct s_) od (ct s_)).1 ((mC1 fpx fpy (16 * s_) (16 * s_ + ct s_) od (ct s_)).2 - 1)) i) (i + 1)) (k := kk) (g := g) (by first | exact Or.inl c260 | exact Or.inr c277), hG, mC3]
                  have hw : ([(om, .inr (5, [.int (nI cd), .int (nI ns), .ref apx, .ref apy, .ref act, .int (nI nb), .ref asd, .ref amv, .ref asl, .ref apl, .ref asw, .int (nI nw), .ref aor, .int (nI (mC1 fpx fpy (16 * s_) (16 * s_ + ct s_) od (ct s_)).2), .ref aon, .ref atw, .long mx, .long my, .ref aup, .ref alw, .int (nI nm), .long up, .long lo, .long rx, .long ry])), (apx, .inl (cJ, 256, .inr (.inl fpx))), (apy, .inl (cJ, 256, .inr (.inl fpy))), (act, .inl (cI, 16, .inl (nF ct))), (aor, .inl (cI, 16, .inl (nF (va_up g kk (((mC3 fpx fpy (mC2 fpx fpy (mC1 fpx fpy (16 * s_) (16 * s_ + ct s_) od (ct s_)).1 ((mC1 fpx fpy (16 * s_) (16 * s_ + ct s_) od (ct s_)).2 - 1)) i) (i + 1)))))))] : va_W) = [(om, .inr (5, [.int (nI cd), .int (nI ns), .ref apx, .ref apy, .ref act, .int (nI nb), .ref asd, .ref amv, .ref asl, .ref apl, .ref asw, .int (nI nw), .ref aor, .int (nI (mC1 fpx fpy (16 * s_) (16 * s_ + ct s_) od (ct s_)).2), .ref aon, .ref atw, .long mx, .long my, .ref aup, .ref alw, .int (nI nm), .long up, .long lo, .long rx, .long ry])), (apx, .inl (cJ, 256, .inr (.inl fpx))), (apy, .inl (cJ, 256, .inr (.inl fpy))), (act, .inl (cI, 16, .inl (nF ct))), (aor, .inl (cI, 16, .inl (nF (mC3 fpx fpy (mC2 fpx fpy (mC1 fpx fpy (16 * s_) (16 * s_ + ct s_) od (ct s_)).1 ((mC1 fpx fpy (16 * s_) (16 * s_ + ct s_) od (ct s_)).2 - 1)) (i + 1)))))] := by rw [hE]
                  rw [hw] at hP hD
                  exact ih239 (i + 1) _ _ _ ⟨hP, hD, hS, lv_sub hl [1, 2, 0] rfl, (by omega)⟩ (by simp only []; omega)
                · rw [nI_leI (by omega) (by omega), Nat.not_le] at c260
                  have hgk := hgb (kk - 1) (by omega)
                  have hg0 := hgb 0 (by omega)
                  refine lv_aload_n hx hb dX5_findCorners_263 rfl (lv_at hl 0 rfl) ?_
                  refine lv_iload_n hx hb dX5_findCorners_264 rfl (lv_at hl 3 rfl) ?_
                  refine lv_aload_n hx hb dX5_findCorners_265 rfl (lv_at hl 0 rfl) ?_
                  refine va_get (D := (dC, dI)) (ci := 5) (v := .ref aor) (C := RX5) (T := TX5) (N := 25) hx hb hts hi5 hown hK hP 0 rfl rfl 12 (by decide) f36 (fun _ h9 => h9) rfl dX5_findCorners_266 ?_
                  refine lv_iload hx hb dX5_findCorners_269 (lv_at hl 4 rfl) ?_
                  refine lv_iconst (v := (nI 1)) hx hb dX5_findCorners_271 (by decide) ?_
                  refine lv_isub hx hb dX5_findCorners_272 ?_
                  rw [show (nI kk) - (nI 1) = (nI (kk - 1)) from pk_sub (show 1 ≤ kk by omega)]
                  refine va_iald hx hb hK hP 4 1 rfl rfl (vp_in_nI (show (kk - 1) < 16 by omega) (by omega)) dX5_findCorners_273 ?_
                  rw [show (nI (kk - 1)).toNatClampNeg = (kk - 1) from nI_clamp (show (kk - 1) < 2 ^ 31 by omega)]
                  rw [show (nF g) ((kk - 1)) = (nI (g ((kk - 1)))) from rfl]
                  refine kpVi (q0 := 0) (ci := 5) (As := [.int (nI ((mC3 fpx fpy (mC2 fpx fpy (mC1 fpx fpy (16 * s_) (16 * s_ + ct s_) od (ct s_)).1 ((mC1 fpx fpy (16 * s_) (16 * s_ + ct s_) od (ct s_)).2 - 1)) i) (i + 1))), .int (nI (g ((kk - 1))))]) (rest := []) (WC := [(om, .inr (5, [.int (nI cd), .int (nI ns), .ref apx, .ref apy, .ref act, .int (nI nb), .ref asd, .ref amv, .ref asl, .ref apl, .ref asw, .int (nI nw), .ref aor, .int (nI (mC1 fpx fpy (16 * s_) (16 * s_ + ct s_) od (ct s_)).2), .ref aon, .ref atw, .long mx, .long my, .ref aup, .ref alw, .int (nI nm), .long up, .long lo, .long rx, .long ry])), (apx, .inl (cJ, 256, .inr (.inl fpx))), (apy, .inl (cJ, 256, .inr (.inl fpy))), (aor, .inl (cI, 16, .inl (nF g)))]) (tyC := [(cJ, .long), (cI, .int), (cZ, .boolean)]) ⟨hx, hb, hml, hown, hts⟩ (tX5_isBefore l dC dI cJ cI cZ om cd ns apx apy act nb asd amv asl apl asw nw aor ((mC1 fpx fpy (16 * s_) (16 * s_ + ct s_) od (ct s_)).2) aon atw aup alw nm mx my up lo rx ry fpx fpy g ((mC3 fpx fpy (mC2 fpx fpy (mC1 fpx fpy (16 * s_) (16 * s_ + ct s_) od (ct s_)).1 ((mC1 fpx fpy (16 * s_) (16 * s_ + ct s_) od (ct s_)).2 - 1)) i) (i + 1)) (g ((kk - 1))) (by omega) (by omega) (by omega)) (cwV 2 hts gX5_findCorners_X5_isBefore rfl rfl rfl (by decide +kernel) ⟨Nat.le_of_ble_eq_true rfl, Nat.le_of_ble_eq_true rfl⟩) (kPick (isC := [0, 1, 2, 4]) hP rfl) (hK.sub [0, 1, 2] rfl) rfl rfl rfl rfl hl.1 (Nat.le_of_ble_eq_true rfl) dX5_findCorners_274 ⟨Nat.le_of_ble_eq_true rfl, Nat.le_of_ble_eq_true rfl⟩ ?_
                  refine lv_if_eq (tgt := 302) hx hb dX5_findCorners_277 (by decide) (fun c277 => ?_) (fun c277 => ?_)
                  · replace c277 := bI_0 c277; replace c277 := pB_not c277
                    refine lv_aload_n hx hb dX5_findCorners_302 rfl (lv_at hl 0 rfl) ?_
                    refine va_get (D := (dC, dI)) (ci := 5) (v := .ref aor) (C := RX5) (T := TX5) (N := 25) hx hb hts hi5 hown hK hP 0 rfl rfl 12 (by decide) f36 (fun _ h9 => h9) rfl dX5_findCorners_303 ?_
                    refine lv_iload hx hb dX5_findCorners_306 (lv_at hl 4 rfl) ?_
                    refine lv_iload_n hx hb dX5_findCorners_308 rfl (lv_at hl 3 rfl) ?_
                    refine va_iast hx hb hK hP hD hS 4 1 rfl rfl (vp_in_nI (show kk < 16 by omega) (by omega)) dX5_findCorners_309 (fun H locs hP hD hS => ?_)
                    rw [show (nI kk).toNatClampNeg = kk from nI_clamp (show kk < 2 ^ 31 by omega)] at hP hD
                    rw [show upd (nF g) kk (nI ((mC3 fpx fpy (mC2 fpx fpy (mC1 fpx fpy (16 * s_) (16 * s_ + ct s_) od (ct s_)).1 ((mC1 fpx fpy (16 * s_) (16 * s_ + ct s_) od (ct s_)).2 - 1)) i) (i + 1))) = (nF (va_up g kk (((mC3 fpx fpy (mC2 fpx fpy (mC1 fpx fpy (16 * s_) (16 * s_ + ct s_) od (ct s_)).1 ((mC1 fpx fpy (16 * s_) (16 * s_ + ct s_) od (ct s_)).2 - 1)) i) (i + 1))))) from nF_upd _ _ _] at hP hD
                    have hP : va_P (dC, dI) vwCl [(om, .inr (5, [.int (nI cd), .int (nI ns), .ref apx, .ref apy, .ref act, .int (nI nb), .ref asd, .ref amv, .ref asl, .ref apl, .ref asw, .int (nI nw), .ref aor, .int (nI (mC1 fpx fpy (16 * s_) (16 * s_ + ct s_) od (ct s_)).2), .ref aon, .ref atw, .long mx, .long my, .ref aup, .ref alw, .int (nI nm), .long up, .long lo, .long rx, .long ry])), (apx, .inl (cJ, 256, .inr (.inl fpx))), (apy, .inl (cJ, 256, .inr (.inl fpy))), (act, .inl (cI, 16, .inl (nF ct))), (aor, .inl (cI, 16, .inl (nF (va_up g kk (((mC3 fpx fpy (mC2 fpx fpy (mC1 fpx fpy (16 * s_) (16 * s_ + ct s_) od (ct s_)).1 ((mC1 fpx fpy (16 * s_) (16 * s_ + ct s_) od (ct s_)).2 - 1)) i) (i + 1)))))))] H := hP
                    have hD : va_D A [(om, .inr (5, [.int (nI cd), .int (nI ns), .ref apx, .ref apy, .ref act, .int (nI nb), .ref asd, .ref amv, .ref asl, .ref apl, .ref asw, .int (nI nw), .ref aor, .int (nI (mC1 fpx fpy (16 * s_) (16 * s_ + ct s_) od (ct s_)).2), .ref aon, .ref atw, .long mx, .long my, .ref aup, .ref alw, .int (nI nm), .long up, .long lo, .long rx, .long ry])), (apx, .inl (cJ, 256, .inr (.inl fpx))), (apy, .inl (cJ, 256, .inr (.inl fpy))), (act, .inl (cI, 16, .inl (nF ct))), (aor, .inl (cI, 16, .inl (nF (va_up g kk (((mC3 fpx fpy (mC2 fpx fpy (mC1 fpx fpy (16 * s_) (16 * s_ + ct s_) od (ct s_)).1 ((mC1 fpx fpy (16 * s_) (16 * s_ + ct s_) od (ct s_)).2 - 1)) i) (i + 1)))))))] := hD
                    refine lv_iinc (v := (nI ((i + 1) + 1))) (lv' := [(2, .int (nI ((i + 1) + 1))), (0, .ref om), (1, .int (nI s_)), (3, .int (nI ((mC3 fpx fpy (mC2 fpx fpy (mC1 fpx fpy (16 * s_) (16 * s_ + ct s_) od (ct s_)).1 ((mC1 fpx fpy (16 * s_) (16 * s_ + ct s_) od (ct s_)).2 - 1)) i) (i + 1)))), (4, .int (nI kk))]) hx hb dX5_findCorners_310 hl (k := 2) rfl (show (nI (i + 1)) + Int32.ofInt 1 = nI ((i + 1) + 1) from nI_add ((i + 1)) 1) (by decide) rfl (fun ls hl => ?_)
                    refine lv_goto (tgt := 239) hx hb dX5_findCorners_313 (by decide) ?_
                    have hE : (mC3 fpx fpy (mC2 fpx fpy (mC1 fpx fpy (16 * s_) (16 * s_ + ct s_) od (ct s_)).1 ((mC1 fpx fpy (16 * s_) (16 * s_ + ct s_) od (ct s_)).2 - 1)) (i + 1)) = va_up g kk ((mC3 fpx fpy (mC2 fpx fpy (mC1 fpx fpy (16 * s_) (16 * s_ + ct s_) od (ct s_)).1 ((mC1 fpx fpy (16 * s_) (16 * s_ + ct s_) od (ct s_)).2 - 1)) i) (i + 1)) := by rw [← mSrt_e (fpx := fpx) (fpy := fpy) (a := (mC3 fpx fpy (mC2 fpx fpy (mC1 fpx fpy (16 * s_) (16 * s_ + ct s_) od (ct s_)).1 ((mC1 fpx fpy (16 * s_) (16 * s_ + ct s_) od (ct s_)).2 - 1)) i) (i + 1)) (k := kk) (g := g) (by first | exact Or.inl c260 | exact Or.inr c277), hG, mC3]
                    have hw : ([(om, .inr (5, [.int (nI cd), .int (nI ns), .ref apx, .ref apy, .ref act, .int (nI nb), .ref asd, .ref amv, .ref asl, .ref apl, .ref asw, .int (nI nw), .ref aor, .int (nI (mC1 fpx fpy (16 * s_) (16 * s_ + ct s_) od (ct s_)).2), .ref aon, .ref atw, .long mx, .long my, .ref aup, .ref alw, .int (nI nm), .long up, .long lo, .long rx, .long ry])), (apx, .inl (cJ, 256, .inr (.inl fpx))), (apy, .inl (cJ, 256, .inr (.inl fpy))), (act, .inl (cI, 16, .inl (nF ct))), (aor, .inl (cI, 16, .inl (nF (va_up g kk (((mC3 fpx fpy (mC2 fpx fpy (mC1 fpx fpy (16 * s_) (16 * s_ + ct s_) od (ct s_)).1 ((mC1 fpx fpy (16 * s_) (16 * s_ + ct s_) od (ct s_)).2 - 1)) i) (i + 1)))))))] : va_W) = [(om, .inr (5, [.int (nI cd), .int (nI ns), .ref apx, .ref apy, .ref act, .int (nI nb), .ref asd, .ref amv, .ref asl, .ref apl, .ref asw, .int (nI nw), .ref aor, .int (nI (mC1 fpx fpy (16 * s_) (16 * s_ + ct s_) od (ct s_)).2), .ref aon, .ref atw, .long mx, .long my, .ref aup, .ref alw, .int (nI nm), .long up, .long lo, .long rx, .long ry])), (apx, .inl (cJ, 256, .inr (.inl fpx))), (apy, .inl (cJ, 256, .inr (.inl fpy))), (act, .inl (cI, 16, .inl (nF ct))), (aor, .inl (cI, 16, .inl (nF (mC3 fpx fpy (mC2 fpx fpy (mC1 fpx fpy (16 * s_) (16 * s_ + ct s_) od (ct s_)).1 ((mC1 fpx fpy (16 * s_) (16 * s_ + ct s_) od (ct s_)).2 - 1)) (i + 1)))))] := by rw [hE]
                    rw [hw] at hP hD
                    exact ih239 (i + 1) _ _ _ ⟨hP, hD, hS, lv_sub hl [1, 2, 0] rfl, (by omega)⟩ (by simp only []; omega)
                  · replace c277 := bI_n c277; replace c277 := pB_iff.mp c277
                    refine lv_aload_n hx hb dX5_findCorners_280 rfl (lv_at hl 0 rfl) ?_
                    refine va_get (D := (dC, dI)) (ci := 5) (v := .ref aor) (C := RX5) (T := TX5) (N := 25) hx hb hts hi5 hown hK hP 0 rfl rfl 12 (by decide) f36 (fun _ h9 => h9) rfl dX5_findCorners_281 ?_
                    refine lv_iload hx hb dX5_findCorners_284 (lv_at hl 4 rfl) ?_
                    refine lv_aload_n hx hb dX5_findCorners_286 rfl (lv_at hl 0 rfl) ?_
                    refine va_get (D := (dC, dI)) (ci := 5) (v := .ref aor) (C := RX5) (T := TX5) (N := 25) hx hb hts hi5 hown hK hP 0 rfl rfl 12 (by decide) f36 (fun _ h9 => h9) rfl dX5_findCorners_287 ?_
                    refine lv_iload hx hb dX5_findCorners_290 (lv_at hl 4 rfl) ?_
                    refine lv_iconst (v := (nI 1)) hx hb dX5_findCorners_292 (by decide) ?_
                    refine lv_isub hx hb dX5_findCorners_293 ?_
                    rw [show (nI kk) - (nI 1) = (nI (kk - 1)) from pk_sub (show 1 ≤ kk by omega)]
                    refine va_iald hx hb hK hP 4 1 rfl rfl (vp_in_nI (show (kk - 1) < 16 by omega) (by omega)) dX5_findCorners_294 ?_
                    rw [show (nI (kk - 1)).toNatClampNeg = (kk - 1) from nI_clamp (show (kk - 1) < 2 ^ 31 by omega)]
                    rw [show (nF g) ((kk - 1)) = (nI (g ((kk - 1)))) from rfl]
                    refine va_iast hx hb hK hP hD hS 4 1 rfl rfl (vp_in_nI (show kk < 16 by omega) (by omega)) dX5_findCorners_295 (fun H locs hP hD hS => ?_)
                    rw [show (nI kk).toNatClampNeg = kk from nI_clamp (show kk < 2 ^ 31 by omega)] at hP hD
                    rw [show upd (nF g) kk (nI (g ((kk - 1)))) = (nF (va_up g kk ((g ((kk - 1)))))) from nF_upd _ _ _] at hP hD
                    have hP : va_P (dC, dI) vwCl [(om, .inr (5, [.int (nI cd), .int (nI ns), .ref apx, .ref apy, .ref act, .int (nI nb), .ref asd, .ref amv, .ref asl, .ref apl, .ref asw, .int (nI nw), .ref aor, .int (nI (mC1 fpx fpy (16 * s_) (16 * s_ + ct s_) od (ct s_)).2), .ref aon, .ref atw, .long mx, .long my, .ref aup, .ref alw, .int (nI nm), .long up, .long lo, .long rx, .long ry])), (apx, .inl (cJ, 256, .inr (.inl fpx))), (apy, .inl (cJ, 256, .inr (.inl fpy))), (act, .inl (cI, 16, .inl (nF ct))), (aor, .inl (cI, 16, .inl (nF (va_up g kk ((g ((kk - 1))))))))] H := hP
                    have hD : va_D A [(om, .inr (5, [.int (nI cd), .int (nI ns), .ref apx, .ref apy, .ref act, .int (nI nb), .ref asd, .ref amv, .ref asl, .ref apl, .ref asw, .int (nI nw), .ref aor, .int (nI (mC1 fpx fpy (16 * s_) (16 * s_ + ct s_) od (ct s_)).2), .ref aon, .ref atw, .long mx, .long my, .ref aup, .ref alw, .int (nI nm), .long up, .long lo, .long rx, .long ry])), (apx, .inl (cJ, 256, .inr (.inl fpx))), (apy, .inl (cJ, 256, .inr (.inl fpy))), (act, .inl (cI, 16, .inl (nF ct))), (aor, .inl (cI, 16, .inl (nF (va_up g kk ((g ((kk - 1))))))))] := hD
                    refine lv_iinc (v := (nI (kk - 1))) (lv' := [(4, .int (nI (kk - 1))), (0, .ref om), (1, .int (nI s_)), (2, .int (nI (i + 1))), (3, .int (nI ((mC3 fpx fpy (mC2 fpx fpy (mC1 fpx fpy (16 * s_) (16 * s_ + ct s_) od (ct s_)).1 ((mC1 fpx fpy (16 * s_) (16 * s_ + ct s_) od (ct s_)).2 - 1)) i) (i + 1))))]) hx hb dX5_findCorners_296 hl (k := 4) rfl (sb_m1 (show 0 < kk by omega)) (by decide) rfl (fun ls hl => ?_)
                    refine lv_goto (tgt := 257) hx hb dX5_findCorners_299 (by decide) ?_
                    exact ih257 (kk - 1, va_up g kk (g (kk - 1))) _ _ _ ⟨hP, hD, hS, lv_sub hl [1, 2, 3, 4, 0] rfl, ⟨by omega, by omega, by rw [← hG, mSrt_s c260 c277], up_bd hgb (hgb (kk - 1) (by omega))⟩⟩ (by simp only []; omega)
              · exact ⟨hP, hD, hS, lv_sub hl [2, 3, 4, 1, 0] rfl, ⟨by omega, Nat.le_refl _, rfl, hbi⟩⟩
          · exact ⟨hP, hD, hS, lv_sub hl [1, 2, 0] rfl, Or.inl rfl⟩
        · rw [nI_leI (by omega) (by omega), Nat.not_le] at c147
          have hq1 := hbj (j + 1) c147
          have hq0 := hbj 0 (by omega)
          refine lv_aload_n hx hb dX5_findCorners_150 rfl (lv_at hl 0 rfl) ?_
          refine va_get (D := (dC, dI)) (ci := 5) (v := .ref aor) (C := RX5) (T := TX5) (N := 25) hx hb hts hi5 hown hK hP 0 rfl rfl 12 (by decide) f36 (fun _ h9 => h9) rfl dX5_findCorners_151 ?_
          refine lv_iload_n hx hb dX5_findCorners_154 rfl (lv_at hl 2 rfl) ?_
          refine va_iald hx hb hK hP 4 1 rfl rfl (vp_in_nI (show (j + 1) < 16 by omega) (by omega)) dX5_findCorners_155 ?_
          rw [show (nI (j + 1)).toNatClampNeg = (j + 1) from nI_clamp (show (j + 1) < 2 ^ 31 by omega)]
          rw [show (nF (mC2 fpx fpy (mC1 fpx fpy (16 * s_) (16 * s_ + ct s_) od (ct s_)).1 j)) ((j + 1)) = (nI ((mC2 fpx fpy (mC1 fpx fpy (16 * s_) (16 * s_ + ct s_) od (ct s_)).1 j) ((j + 1)))) from rfl]
          refine lv_istore_n (lv' := [(3, .int (nI ((mC2 fpx fpy (mC1 fpx fpy (16 * s_) (16 * s_ + ct s_) od (ct s_)).1 j) ((j + 1))))), (0, .ref om), (1, .int (nI s_)), (2, .int (nI (j + 1)))]) hx hb dX5_findCorners_156 rfl hl (by decide) rfl (fun ls hl => ?_)
          refine lv_aload_n hx hb dX5_findCorners_157 rfl (lv_at hl 1 rfl) ?_
          refine va_get (D := (dC, dI)) (ci := 5) (v := .ref aor) (C := RX5) (T := TX5) (N := 25) hx hb hts hi5 hown hK hP 0 rfl rfl 12 (by decide) f36 (fun _ h9 => h9) rfl dX5_findCorners_158 ?_
          refine lv_iconst (v := (nI 0)) hx hb dX5_findCorners_161 (by decide) ?_
          refine va_iald hx hb hK hP 4 1 rfl rfl (vp_in_nI (show 0 < 16 by omega) (by omega)) dX5_findCorners_162 ?_
          rw [show (nI 0).toNatClampNeg = 0 from nI_clamp (show 0 < 2 ^ 31 by omega)]
          rw [show (nF (mC2 fpx fpy (mC1 fpx fpy (16 * s_) (16 * s_ + ct s_) od (ct s_)).1 j)) 0 = (nI ((mC2 fpx fpy (mC1 fpx fpy (16 * s_) (16 * s_ + ct s_) od (ct s_)).1 j) 0)) from rfl]
          refine lv_istore (lv' := [(4, .int (nI ((mC2 fpx fpy (mC1 fpx fpy (16 * s_) (16 * s_ + ct s_) od (ct s_)).1 j) 0))), (3, .int (nI ((mC2 fpx fpy (mC1 fpx fpy (16 * s_) (16 * s_ + ct s_) od (ct s_)).1 j) ((j + 1))))), (0, .ref om), (1, .int (nI s_)), (2, .int (nI (j + 1)))]) hx hb dX5_findCorners_163 hl (by decide) rfl (fun ls hl => ?_)
          refine lv_aload_n hx hb dX5_findCorners_165 rfl (lv_at hl 2 rfl) ?_
          refine va_get (D := (dC, dI)) (ci := 5) (v := .ref apx) (C := RX5) (T := TX5) (N := 25) hx hb hts hi5 hown hK hP 0 rfl rfl 2 (by decide) f7 (fun _ h9 => h9) rfl dX5_findCorners_166 ?_
          refine lv_iload_n hx hb dX5_findCorners_169 rfl (lv_at hl 1 rfl) ?_
          refine va_lald hx hb hK hP 1 0 rfl rfl (vp_in_nI (show ((mC2 fpx fpy (mC1 fpx fpy (16 * s_) (16 * s_ + ct s_) od (ct s_)).1 j) ((j + 1))) < 256 by omega) (by omega)) dX5_findCorners_170 ?_
          rw [show (nI ((mC2 fpx fpy (mC1 fpx fpy (16 * s_) (16 * s_ + ct s_) od (ct s_)).1 j) ((j + 1)))).toNatClampNeg = ((mC2 fpx fpy (mC1 fpx fpy (16 * s_) (16 * s_ + ct s_) od (ct s_)).1 j) ((j + 1))) from nI_clamp (show ((mC2 fpx fpy (mC1 fpx fpy (16 * s_) (16 * s_ + ct s_) od (ct s_)).1 j) ((j + 1))) < 2 ^ 31 by omega)]
          refine lv_aload_n hx hb dX5_findCorners_171 rfl (lv_at hl 2 rfl) ?_
          refine va_get (D := (dC, dI)) (ci := 5) (v := .ref apx) (C := RX5) (T := TX5) (N := 25) hx hb hts hi5 hown hK hP 0 rfl rfl 2 (by decide) f7 (fun _ h9 => h9) rfl dX5_findCorners_172 ?_
          refine lv_iload hx hb dX5_findCorners_175 (lv_at hl 0 rfl) ?_
          refine va_lald hx hb hK hP 1 0 rfl rfl (vp_in_nI (show ((mC2 fpx fpy (mC1 fpx fpy (16 * s_) (16 * s_ + ct s_) od (ct s_)).1 j) 0) < 256 by omega) (by omega)) dX5_findCorners_177 ?_
          rw [show (nI ((mC2 fpx fpy (mC1 fpx fpy (16 * s_) (16 * s_ + ct s_) od (ct s_)).1 j) 0)).toNatClampNeg = ((mC2 fpx fpy (mC1 fpx fpy (16 * s_) (16 * s_ + ct s_) od (ct s_)).1 j) 0) from nI_clamp (show ((mC2 fpx fpy (mC1 fpx fpy (16 * s_) (16 * s_ + ct s_) od (ct s_)).1 j) 0) < 2 ^ 31 by omega)]
          refine W.lcmp hx hb dX5_findCorners_178 ?_
          refine lv_if_lt (tgt := 216) hx hb dX5_findCorners_179 (by decide) (fun c179 => ?_) (fun c179 => ?_)
          · rw [lg_cmp_lt] at c179
            refine lv_aload_n hx hb dX5_findCorners_216 rfl (lv_at hl 2 rfl) ?_
            refine va_get (D := (dC, dI)) (ci := 5) (v := .ref aor) (C := RX5) (T := TX5) (N := 25) hx hb hts hi5 hown hK hP 0 rfl rfl 12 (by decide) f36 (fun _ h9 => h9) rfl dX5_findCorners_217 ?_
            refine lv_iload_n hx hb dX5_findCorners_220 rfl (lv_at hl 4 rfl) ?_
            refine lv_iload hx hb dX5_findCorners_221 (lv_at hl 0 rfl) ?_
            refine va_iast hx hb hK hP hD hS 4 1 rfl rfl (vp_in_nI (show (j + 1) < 16 by omega) (by omega)) dX5_findCorners_223 (fun H locs hP hD hS => ?_)
            rw [show (nI (j + 1)).toNatClampNeg = (j + 1) from nI_clamp (show (j + 1) < 2 ^ 31 by omega)] at hP hD
            rw [show upd (nF (mC2 fpx fpy (mC1 fpx fpy (16 * s_) (16 * s_ + ct s_) od (ct s_)).1 j)) ((j + 1)) (nI ((mC2 fpx fpy (mC1 fpx fpy (16 * s_) (16 * s_ + ct s_) od (ct s_)).1 j) 0)) = (nF (va_up (mC2 fpx fpy (mC1 fpx fpy (16 * s_) (16 * s_ + ct s_) od (ct s_)).1 j) ((j + 1)) (((mC2 fpx fpy (mC1 fpx fpy (16 * s_) (16 * s_ + ct s_) od (ct s_)).1 j) 0)))) from nF_upd _ _ _] at hP hD
            have hP : va_P (dC, dI) vwCl [(om, .inr (5, [.int (nI cd), .int (nI ns), .ref apx, .ref apy, .ref act, .int (nI nb), .ref asd, .ref amv, .ref asl, .ref apl, .ref asw, .int (nI nw), .ref aor, .int (nI (mC1 fpx fpy (16 * s_) (16 * s_ + ct s_) od (ct s_)).2), .ref aon, .ref atw, .long mx, .long my, .ref aup, .ref alw, .int (nI nm), .long up, .long lo, .long rx, .long ry])), (apx, .inl (cJ, 256, .inr (.inl fpx))), (apy, .inl (cJ, 256, .inr (.inl fpy))), (act, .inl (cI, 16, .inl (nF ct))), (aor, .inl (cI, 16, .inl (nF (va_up (mC2 fpx fpy (mC1 fpx fpy (16 * s_) (16 * s_ + ct s_) od (ct s_)).1 j) ((j + 1)) (((mC2 fpx fpy (mC1 fpx fpy (16 * s_) (16 * s_ + ct s_) od (ct s_)).1 j) 0))))))] H := hP
            have hD : va_D A [(om, .inr (5, [.int (nI cd), .int (nI ns), .ref apx, .ref apy, .ref act, .int (nI nb), .ref asd, .ref amv, .ref asl, .ref apl, .ref asw, .int (nI nw), .ref aor, .int (nI (mC1 fpx fpy (16 * s_) (16 * s_ + ct s_) od (ct s_)).2), .ref aon, .ref atw, .long mx, .long my, .ref aup, .ref alw, .int (nI nm), .long up, .long lo, .long rx, .long ry])), (apx, .inl (cJ, 256, .inr (.inl fpx))), (apy, .inl (cJ, 256, .inr (.inl fpy))), (act, .inl (cI, 16, .inl (nF ct))), (aor, .inl (cI, 16, .inl (nF (va_up (mC2 fpx fpy (mC1 fpx fpy (16 * s_) (16 * s_ + ct s_) od (ct s_)).1 j) ((j + 1)) (((mC2 fpx fpy (mC1 fpx fpy (16 * s_) (16 * s_ + ct s_) od (ct s_)).1 j) 0))))))] := hD
            refine lv_aload_n hx hb dX5_findCorners_224 rfl (lv_at hl 2 rfl) ?_
            refine va_get (D := (dC, dI)) (ci := 5) (v := .ref aor) (C := RX5) (T := TX5) (N := 25) hx hb hts hi5 hown hK hP 0 rfl rfl 12 (by decide) f36 (fun _ h9 => h9) rfl dX5_findCorners_225 ?_
            refine lv_iconst (v := (nI 0)) hx hb dX5_findCorners_228 (by decide) ?_
            refine lv_iload_n hx hb dX5_findCorners_229 rfl (lv_at hl 1 rfl) ?_
            refine va_iast hx hb hK hP hD hS 4 1 rfl rfl (vp_in_nI (show 0 < 16 by omega) (by omega)) dX5_findCorners_230 (fun H locs hP hD hS => ?_)
            rw [show (nI 0).toNatClampNeg = 0 from nI_clamp (show 0 < 2 ^ 31 by omega)] at hP hD
            rw [show upd (nF (va_up (mC2 fpx fpy (mC1 fpx fpy (16 * s_) (16 * s_ + ct s_) od (ct s_)).1 j) ((j + 1)) (((mC2 fpx fpy (mC1 fpx fpy (16 * s_) (16 * s_ + ct s_) od (ct s_)).1 j) 0)))) 0 (nI ((mC2 fpx fpy (mC1 fpx fpy (16 * s_) (16 * s_ + ct s_) od (ct s_)).1 j) ((j + 1)))) = (nF (va_up (va_up (mC2 fpx fpy (mC1 fpx fpy (16 * s_) (16 * s_ + ct s_) od (ct s_)).1 j) ((j + 1)) (((mC2 fpx fpy (mC1 fpx fpy (16 * s_) (16 * s_ + ct s_) od (ct s_)).1 j) 0))) 0 (((mC2 fpx fpy (mC1 fpx fpy (16 * s_) (16 * s_ + ct s_) od (ct s_)).1 j) ((j + 1)))))) from nF_upd _ _ _] at hP hD
            have hP : va_P (dC, dI) vwCl [(om, .inr (5, [.int (nI cd), .int (nI ns), .ref apx, .ref apy, .ref act, .int (nI nb), .ref asd, .ref amv, .ref asl, .ref apl, .ref asw, .int (nI nw), .ref aor, .int (nI (mC1 fpx fpy (16 * s_) (16 * s_ + ct s_) od (ct s_)).2), .ref aon, .ref atw, .long mx, .long my, .ref aup, .ref alw, .int (nI nm), .long up, .long lo, .long rx, .long ry])), (apx, .inl (cJ, 256, .inr (.inl fpx))), (apy, .inl (cJ, 256, .inr (.inl fpy))), (act, .inl (cI, 16, .inl (nF ct))), (aor, .inl (cI, 16, .inl (nF (va_up (va_up (mC2 fpx fpy (mC1 fpx fpy (16 * s_) (16 * s_ + ct s_) od (ct s_)).1 j) ((j + 1)) (((mC2 fpx fpy (mC1 fpx fpy (16 * s_) (16 * s_ + ct s_) od (ct s_)).1 j) 0))) 0 (((mC2 fpx fpy (mC1 fpx fpy (16 * s_) (16 * s_ + ct s_) od (ct s_)).1 j) ((j + 1))))))))] H := hP
            have hD : va_D A [(om, .inr (5, [.int (nI cd), .int (nI ns), .ref apx, .ref apy, .ref act, .int (nI nb), .ref asd, .ref amv, .ref asl, .ref apl, .ref asw, .int (nI nw), .ref aor, .int (nI (mC1 fpx fpy (16 * s_) (16 * s_ + ct s_) od (ct s_)).2), .ref aon, .ref atw, .long mx, .long my, .ref aup, .ref alw, .int (nI nm), .long up, .long lo, .long rx, .long ry])), (apx, .inl (cJ, 256, .inr (.inl fpx))), (apy, .inl (cJ, 256, .inr (.inl fpy))), (act, .inl (cI, 16, .inl (nF ct))), (aor, .inl (cI, 16, .inl (nF (va_up (va_up (mC2 fpx fpy (mC1 fpx fpy (16 * s_) (16 * s_ + ct s_) od (ct s_)).1 j) ((j + 1)) (((mC2 fpx fpy (mC1 fpx fpy (16 * s_) (16 * s_ + ct s_) od (ct s_)).1 j) 0))) 0 (((mC2 fpx fpy (mC1 fpx fpy (16 * s_) (16 * s_ + ct s_) od (ct s_)).1 j) ((j + 1))))))))] := hD
            refine lv_iinc (v := (nI ((j + 1) + 1))) (lv' := [(2, .int (nI ((j + 1) + 1))), (4, .int (nI ((mC2 fpx fpy (mC1 fpx fpy (16 * s_) (16 * s_ + ct s_) od (ct s_)).1 j) 0))), (3, .int (nI ((mC2 fpx fpy (mC1 fpx fpy (16 * s_) (16 * s_ + ct s_) od (ct s_)).1 j) ((j + 1))))), (0, .ref om), (1, .int (nI s_))]) hx hb dX5_findCorners_231 hl (k := 4) rfl (show (nI (j + 1)) + Int32.ofInt 1 = nI ((j + 1) + 1) from nI_add ((j + 1)) 1) (by decide) rfl (fun ls hl => ?_)
            refine lv_goto (tgt := 142) hx hb dX5_findCorners_234 (by decide) ?_
            have hE := mC2_y (fpx := fpx) (fpy := fpy) (o := (mC1 fpx fpy (16 * s_) (16 * s_ + ct s_) od (ct s_)).1) (j := j) (by first | exact Or.inl c179 | exact Or.inr ⟨c196, c213⟩)
            have hw : ([(om, .inr (5, [.int (nI cd), .int (nI ns), .ref apx, .ref apy, .ref act, .int (nI nb), .ref asd, .ref amv, .ref asl, .ref apl, .ref asw, .int (nI nw), .ref aor, .int (nI (mC1 fpx fpy (16 * s_) (16 * s_ + ct s_) od (ct s_)).2), .ref aon, .ref atw, .long mx, .long my, .ref aup, .ref alw, .int (nI nm), .long up, .long lo, .long rx, .long ry])), (apx, .inl (cJ, 256, .inr (.inl fpx))), (apy, .inl (cJ, 256, .inr (.inl fpy))), (act, .inl (cI, 16, .inl (nF ct))), (aor, .inl (cI, 16, .inl (nF (va_up (va_up (mC2 fpx fpy (mC1 fpx fpy (16 * s_) (16 * s_ + ct s_) od (ct s_)).1 j) ((j + 1)) (((mC2 fpx fpy (mC1 fpx fpy (16 * s_) (16 * s_ + ct s_) od (ct s_)).1 j) 0))) 0 (((mC2 fpx fpy (mC1 fpx fpy (16 * s_) (16 * s_ + ct s_) od (ct s_)).1 j) ((j + 1))))))))] : va_W) = [(om, .inr (5, [.int (nI cd), .int (nI ns), .ref apx, .ref apy, .ref act, .int (nI nb), .ref asd, .ref amv, .ref asl, .ref apl, .ref asw, .int (nI nw), .ref aor, .int (nI (mC1 fpx fpy (16 * s_) (16 * s_ + ct s_) od (ct s_)).2), .ref aon, .ref atw, .long mx, .long my, .ref aup, .ref alw, .int (nI nm), .long up, .long lo, .long rx, .long ry])), (apx, .inl (cJ, 256, .inr (.inl fpx))), (apy, .inl (cJ, 256, .inr (.inl fpy))), (act, .inl (cI, 16, .inl (nF ct))), (aor, .inl (cI, 16, .inl (nF (mC2 fpx fpy (mC1 fpx fpy (16 * s_) (16 * s_ + ct s_) od (ct s_)).1 (j + 1)))))] := by rw [hE]
            rw [hw] at hP hD
            exact ih142 (j + 1) _ _ _ ⟨hP, hD, hS, lv_sub hl [3, 4, 0] rfl, (by omega)⟩ (by simp only []; omega)
          · rw [lg_cmp_lt, Int64.not_lt] at c179
            refine lv_aload_n hx hb dX5_findCorners_182 rfl (lv_at hl 2 rfl) ?_
            refine va_get (D := (dC, dI)) (ci := 5) (v := .ref apx) (C := RX5) (T := TX5) (N := 25) hx hb hts hi5 hown hK hP 0 rfl rfl 2 (by decide) f7 (fun _ h9 => h9) rfl dX5_findCorners_183 ?_
            refine lv_iload_n hx hb dX5_findCorners_186 rfl (lv_at hl 1 rfl) ?_
            refine va_lald hx hb hK hP 1 0 rfl rfl (vp_in_nI (show ((mC2 fpx fpy (mC1 fpx fpy (16 * s_) (16 * s_ + ct s_) od (ct s_)).1 j) ((j + 1))) < 256 by omega) (by omega)) dX5_findCorners_187 ?_
            rw [show (nI ((mC2 fpx fpy (mC1 fpx fpy (16 * s_) (16 * s_ + ct s_) od (ct s_)).1 j) ((j + 1)))).toNatClampNeg = ((mC2 fpx fpy (mC1 fpx fpy (16 * s_) (16 * s_ + ct s_) od (ct s_)).1 j) ((j + 1))) from nI_clamp (show ((mC2 fpx fpy (mC1 fpx fpy (16 * s_) (16 * s_ + ct s_) od (ct s_)).1 j) ((j + 1))) < 2 ^ 31 by omega)]
            refine lv_aload_n hx hb dX5_findCorners_188 rfl (lv_at hl 2 rfl) ?_
            refine va_get (D := (dC, dI)) (ci := 5) (v := .ref apx) (C := RX5) (T := TX5) (N := 25) hx hb hts hi5 hown hK hP 0 rfl rfl 2 (by decide) f7 (fun _ h9 => h9) rfl dX5_findCorners_189 ?_
            refine lv_iload hx hb dX5_findCorners_192 (lv_at hl 0 rfl) ?_
            refine va_lald hx hb hK hP 1 0 rfl rfl (vp_in_nI (show ((mC2 fpx fpy (mC1 fpx fpy (16 * s_) (16 * s_ + ct s_) od (ct s_)).1 j) 0) < 256 by omega) (by omega)) dX5_findCorners_194 ?_
            rw [show (nI ((mC2 fpx fpy (mC1 fpx fpy (16 * s_) (16 * s_ + ct s_) od (ct s_)).1 j) 0)).toNatClampNeg = ((mC2 fpx fpy (mC1 fpx fpy (16 * s_) (16 * s_ + ct s_) od (ct s_)).1 j) 0) from nI_clamp (show ((mC2 fpx fpy (mC1 fpx fpy (16 * s_) (16 * s_ + ct s_) od (ct s_)).1 j) 0) < 2 ^ 31 by omega)]
            refine W.lcmp hx hb dX5_findCorners_195 ?_
            refine lv_if_ne (tgt := 231) hx hb dX5_findCorners_196 (by decide) (fun c196 => ?_) (fun c196 => ?_)
            · simp only [ne_eq, lg_cmp_eq] at c196
              refine lv_iinc (v := (nI ((j + 1) + 1))) (lv' := [(2, .int (nI ((j + 1) + 1))), (4, .int (nI ((mC2 fpx fpy (mC1 fpx fpy (16 * s_) (16 * s_ + ct s_) od (ct s_)).1 j) 0))), (3, .int (nI ((mC2 fpx fpy (mC1 fpx fpy (16 * s_) (16 * s_ + ct s_) od (ct s_)).1 j) ((j + 1))))), (0, .ref om), (1, .int (nI s_))]) hx hb dX5_findCorners_231 hl (k := 4) rfl (show (nI (j + 1)) + Int32.ofInt 1 = nI ((j + 1) + 1) from nI_add ((j + 1)) 1) (by decide) rfl (fun ls hl => ?_)
              refine lv_goto (tgt := 142) hx hb dX5_findCorners_234 (by decide) ?_
              have hE := mC2_n (fpx := fpx) (fpy := fpy) (o := (mC1 fpx fpy (16 * s_) (16 * s_ + ct s_) od (ct s_)).1) (j := j) (fun z => z.elim (fun h => absurd h (Int64.not_lt.mpr c179)) (fun h => by first | exact absurd h.1 c196 | exact absurd h.2 (Int64.not_lt.mpr c213)))
              have hw : ([(om, .inr (5, [.int (nI cd), .int (nI ns), .ref apx, .ref apy, .ref act, .int (nI nb), .ref asd, .ref amv, .ref asl, .ref apl, .ref asw, .int (nI nw), .ref aor, .int (nI (mC1 fpx fpy (16 * s_) (16 * s_ + ct s_) od (ct s_)).2), .ref aon, .ref atw, .long mx, .long my, .ref aup, .ref alw, .int (nI nm), .long up, .long lo, .long rx, .long ry])), (apx, .inl (cJ, 256, .inr (.inl fpx))), (apy, .inl (cJ, 256, .inr (.inl fpy))), (act, .inl (cI, 16, .inl (nF ct))), (aor, .inl (cI, 16, .inl (nF (mC2 fpx fpy (mC1 fpx fpy (16 * s_) (16 * s_ + ct s_) od (ct s_)).1 j))))] : va_W) = [(om, .inr (5, [.int (nI cd), .int (nI ns), .ref apx, .ref apy, .ref act, .int (nI nb), .ref asd, .ref amv, .ref asl, .ref apl, .ref asw, .int (nI nw), .ref aor, .int (nI (mC1 fpx fpy (16 * s_) (16 * s_ + ct s_) od (ct s_)).2), .ref aon, .ref atw, .long mx, .long my, .ref aup, .ref alw, .int (nI nm), .long up, .long lo, .long rx, .long ry])), (apx, .inl (cJ, 256, .inr (.inl fpx))), (apy, .inl (cJ, 256, .inr (.inl fpy))), (act, .inl (cI, 16, .inl (nF ct))), (aor, .inl (cI, 16, .inl (nF (mC2 fpx fpy (mC1 fpx fpy (16 * s_) (16 * s_ + ct s_) od (ct s_)).1 (j + 1)))))] := by rw [hE]
              rw [hw] at hP hD
              exact ih142 (j + 1) _ _ _ ⟨hP, hD, hS, lv_sub hl [3, 4, 0] rfl, (by omega)⟩ (by simp only []; omega)
            · simp only [ne_eq, Decidable.not_not, lg_cmp_eq] at c196
              refine lv_aload_n hx hb dX5_findCorners_199 rfl (lv_at hl 2 rfl) ?_
              refine va_get (D := (dC, dI)) (ci := 5) (v := .ref apy) (C := RX5) (T := TX5) (N := 25) hx hb hts hi5 hown hK hP 0 rfl rfl 3 (by decide) f13 (fun _ h9 => h9) rfl dX5_findCorners_200 ?_
              refine lv_iload_n hx hb dX5_findCorners_203 rfl (lv_at hl 1 rfl) ?_
              refine va_lald hx hb hK hP 2 0 rfl rfl (vp_in_nI (show ((mC2 fpx fpy (mC1 fpx fpy (16 * s_) (16 * s_ + ct s_) od (ct s_)).1 j) ((j + 1))) < 256 by omega) (by omega)) dX5_findCorners_204 ?_
              rw [show (nI ((mC2 fpx fpy (mC1 fpx fpy (16 * s_) (16 * s_ + ct s_) od (ct s_)).1 j) ((j + 1)))).toNatClampNeg = ((mC2 fpx fpy (mC1 fpx fpy (16 * s_) (16 * s_ + ct s_) od (ct s_)).1 j) ((j + 1))) from nI_clamp (show ((mC2 fpx fpy (mC1 fpx fpy (16 * s_) (16 * s_ + ct s_) od (ct s_)).1 j) ((j + 1))) < 2 ^ 31 by omega)]
              refine lv_aload_n hx hb dX5_findCorners_205 rfl (lv_at hl 2 rfl) ?_
              refine va_get (D := (dC, dI)) (ci := 5) (v := .ref apy) (C := RX5) (T := TX5) (N := 25) hx hb hts hi5 hown hK hP 0 rfl rfl 3 (by decide) f13 (fun _ h9 => h9) rfl dX5_findCorners_206 ?_
              refine lv_iload hx hb dX5_findCorners_209 (lv_at hl 0 rfl) ?_
              refine va_lald hx hb hK hP 2 0 rfl rfl (vp_in_nI (show ((mC2 fpx fpy (mC1 fpx fpy (16 * s_) (16 * s_ + ct s_) od (ct s_)).1 j) 0) < 256 by omega) (by omega)) dX5_findCorners_211 ?_
              rw [show (nI ((mC2 fpx fpy (mC1 fpx fpy (16 * s_) (16 * s_ + ct s_) od (ct s_)).1 j) 0)).toNatClampNeg = ((mC2 fpx fpy (mC1 fpx fpy (16 * s_) (16 * s_ + ct s_) od (ct s_)).1 j) 0) from nI_clamp (show ((mC2 fpx fpy (mC1 fpx fpy (16 * s_) (16 * s_ + ct s_) od (ct s_)).1 j) 0) < 2 ^ 31 by omega)]
              refine W.lcmp hx hb dX5_findCorners_212 ?_
              refine lv_if_ge (tgt := 231) hx hb dX5_findCorners_213 (by decide) (fun c213 => ?_) (fun c213 => ?_)
              · rw [lg_cmp_ge] at c213
                refine lv_iinc (v := (nI ((j + 1) + 1))) (lv' := [(2, .int (nI ((j + 1) + 1))), (4, .int (nI ((mC2 fpx fpy (mC1 fpx fpy (16 * s_) (16 * s_ + ct s_) od (ct s_)).1 j) 0))), (3, .int (nI ((mC2 fpx fpy (mC1 fpx fpy (16 * s_) (16 * s_ + ct s_) od (ct s_)).1 j) ((j + 1))))), (0, .ref om), (1, .int (nI s_))]) hx hb dX5_findCorners_231 hl (k := 4) rfl (show (nI (j + 1)) + Int32.ofInt 1 = nI ((j + 1) + 1) from nI_add ((j + 1)) 1) (by decide) rfl (fun ls hl => ?_)
                refine lv_goto (tgt := 142) hx hb dX5_findCorners_234 (by decide) ?_
                have hE := mC2_n (fpx := fpx) (fpy := fpy) (o := (mC1 fpx fpy (16 * s_) (16 * s_ + ct s_) od (ct s_)).1) (j := j) (fun z => z.elim (fun h => absurd h (Int64.not_lt.mpr c179)) (fun h => by first | exact absurd h.1 c196 | exact absurd h.2 (Int64.not_lt.mpr c213)))
                have hw : ([(om, .inr (5, [.int (nI cd), .int (nI ns), .ref apx, .ref apy, .ref act, .int (nI nb), .ref asd, .ref amv, .ref asl, .ref apl, .ref asw, .int (nI nw), .ref aor, .int (nI (mC1 fpx fpy (16 * s_) (16 * s_ + ct s_) od (ct s_)).2), .ref aon, .ref atw, .long mx, .long my, .ref aup, .ref alw, .int (nI nm), .long up, .long lo, .long rx, .long ry])), (apx, .inl (cJ, 256, .inr (.inl fpx))), (apy, .inl (cJ, 256, .inr (.inl fpy))), (act, .inl (cI, 16, .inl (nF ct))), (aor, .inl (cI, 16, .inl (nF (mC2 fpx fpy (mC1 fpx fpy (16 * s_) (16 * s_ + ct s_) od (ct s_)).1 j))))] : va_W) = [(om, .inr (5, [.int (nI cd), .int (nI ns), .ref apx, .ref apy, .ref act, .int (nI nb), .ref asd, .ref amv, .ref asl, .ref apl, .ref asw, .int (nI nw), .ref aor, .int (nI (mC1 fpx fpy (16 * s_) (16 * s_ + ct s_) od (ct s_)).2), .ref aon, .ref atw, .long mx, .long my, .ref aup, .ref alw, .int (nI nm), .long up, .long lo, .long rx, .long ry])), (apx, .inl (cJ, 256, .inr (.inl fpx))), (apy, .inl (cJ, 256, .inr (.inl fpy))), (act, .inl (cI, 16, .inl (nF ct))), (aor, .inl (cI, 16, .inl (nF (mC2 fpx fpy (mC1 fpx fpy (16 * s_) (16 * s_ + ct s_) od (ct s_)).1 (j + 1)))))] := by rw [hE]
                rw [hw] at hP hD
                exact ih142 (j + 1) _ _ _ ⟨hP, hD, hS, lv_sub hl [3, 4, 0] rfl, (by omega)⟩ (by simp only []; omega)
              · rw [lg_cmp_ge, Int64.not_le] at c213
                refine lv_aload_n hx hb dX5_findCorners_216 rfl (lv_at hl 2 rfl) ?_
                refine va_get (D := (dC, dI)) (ci := 5) (v := .ref aor) (C := RX5) (T := TX5) (N := 25) hx hb hts hi5 hown hK hP 0 rfl rfl 12 (by decide) f36 (fun _ h9 => h9) rfl dX5_findCorners_217 ?_
                refine lv_iload_n hx hb dX5_findCorners_220 rfl (lv_at hl 4 rfl) ?_
                refine lv_iload hx hb dX5_findCorners_221 (lv_at hl 0 rfl) ?_
                refine va_iast hx hb hK hP hD hS 4 1 rfl rfl (vp_in_nI (show (j + 1) < 16 by omega) (by omega)) dX5_findCorners_223 (fun H locs hP hD hS => ?_)
                rw [show (nI (j + 1)).toNatClampNeg = (j + 1) from nI_clamp (show (j + 1) < 2 ^ 31 by omega)] at hP hD
                rw [show upd (nF (mC2 fpx fpy (mC1 fpx fpy (16 * s_) (16 * s_ + ct s_) od (ct s_)).1 j)) ((j + 1)) (nI ((mC2 fpx fpy (mC1 fpx fpy (16 * s_) (16 * s_ + ct s_) od (ct s_)).1 j) 0)) = (nF (va_up (mC2 fpx fpy (mC1 fpx fpy (16 * s_) (16 * s_ + ct s_) od (ct s_)).1 j) ((j + 1)) (((mC2 fpx fpy (mC1 fpx fpy (16 * s_) (16 * s_ + ct s_) od (ct s_)).1 j) 0)))) from nF_upd _ _ _] at hP hD
                have hP : va_P (dC, dI) vwCl [(om, .inr (5, [.int (nI cd), .int (nI ns), .ref apx, .ref apy, .ref act, .int (nI nb), .ref asd, .ref amv, .ref asl, .ref apl, .ref asw, .int (nI nw), .ref aor, .int (nI (mC1 fpx fpy (16 * s_) (16 * s_ + ct s_) od (ct s_)).2), .ref aon, .ref atw, .long mx, .long my, .ref aup, .ref alw, .int (nI nm), .long up, .long lo, .long rx, .long ry])), (apx, .inl (cJ, 256, .inr (.inl fpx))), (apy, .inl (cJ, 256, .inr (.inl fpy))), (act, .inl (cI, 16, .inl (nF ct))), (aor, .inl (cI, 16, .inl (nF (va_up (mC2 fpx fpy (mC1 fpx fpy (16 * s_) (16 * s_ + ct s_) od (ct s_)).1 j) ((j + 1)) (((mC2 fpx fpy (mC1 fpx fpy (16 * s_) (16 * s_ + ct s_) od (ct s_)).1 j) 0))))))] H := hP
                have hD : va_D A [(om, .inr (5, [.int (nI cd), .int (nI ns), .ref apx, .ref apy, .ref act, .int (nI nb), .ref asd, .ref amv, .ref asl, .ref apl, .ref asw, .int (nI nw), .ref aor, .int (nI (mC1 fpx fpy (16 * s_) (16 * s_ + ct s_) od (ct s_)).2), .ref aon, .ref atw, .long mx, .long my, .ref aup, .ref alw, .int (nI nm), .long up, .long lo, .long rx, .long ry])), (apx, .inl (cJ, 256, .inr (.inl fpx))), (apy, .inl (cJ, 256, .inr (.inl fpy))), (act, .inl (cI, 16, .inl (nF ct))), (aor, .inl (cI, 16, .inl (nF (va_up (mC2 fpx fpy (mC1 fpx fpy (16 * s_) (16 * s_ + ct s_) od (ct s_)).1 j) ((j + 1)) (((mC2 fpx fpy (mC1 fpx fpy (16 * s_) (16 * s_ + ct s_) od (ct s_)).1 j) 0))))))] := hD
                refine lv_aload_n hx hb dX5_findCorners_224 rfl (lv_at hl 2 rfl) ?_
                refine va_get (D := (dC, dI)) (ci := 5) (v := .ref aor) (C := RX5) (T := TX5) (N := 25) hx hb hts hi5 hown hK hP 0 rfl rfl 12 (by decide) f36 (fun _ h9 => h9) rfl dX5_findCorners_225 ?_
                refine lv_iconst (v := (nI 0)) hx hb dX5_findCorners_228 (by decide) ?_
                refine lv_iload_n hx hb dX5_findCorners_229 rfl (lv_at hl 1 rfl) ?_
                refine va_iast hx hb hK hP hD hS 4 1 rfl rfl (vp_in_nI (show 0 < 16 by omega) (by omega)) dX5_findCorners_230 (fun H locs hP hD hS => ?_)
                rw [show (nI 0).toNatClampNeg = 0 from nI_clamp (show 0 < 2 ^ 31 by omega)] at hP hD
                rw [show upd (nF (va_up (mC2 fpx fpy (mC1 fpx fpy (16 * s_) (16 * s_ + ct s_) od (ct s_)).1 j) ((j + 1)) (((mC2 fpx fpy (mC1 fpx fpy (16 * s_) (16 * s_ + ct s_) od (ct s_)).1 j) 0)))) 0 (nI ((mC2 fpx fpy (mC1 fpx fpy (16 * s_) (16 * s_ + ct s_) od (ct s_)).1 j) ((j + 1)))) = (nF (va_up (va_up (mC2 fpx fpy (mC1 fpx fpy (16 * s_) (16 * s_ + ct s_) od (ct s_)).1 j) ((j + 1)) (((mC2 fpx fpy (mC1 fpx fpy (16 * s_) (16 * s_ + ct s_) od (ct s_)).1 j) 0))) 0 (((mC2 fpx fpy (mC1 fpx fpy (16 * s_) (16 * s_ + ct s_) od (ct s_)).1 j) ((j + 1)))))) from nF_upd _ _ _] at hP hD
                have hP : va_P (dC, dI) vwCl [(om, .inr (5, [.int (nI cd), .int (nI ns), .ref apx, .ref apy, .ref act, .int (nI nb), .ref asd, .ref amv, .ref asl, .ref apl, .ref asw, .int (nI nw), .ref aor, .int (nI (mC1 fpx fpy (16 * s_) (16 * s_ + ct s_) od (ct s_)).2), .ref aon, .ref atw, .long mx, .long my, .ref aup, .ref alw, .int (nI nm), .long up, .long lo, .long rx, .long ry])), (apx, .inl (cJ, 256, .inr (.inl fpx))), (apy, .inl (cJ, 256, .inr (.inl fpy))), (act, .inl (cI, 16, .inl (nF ct))), (aor, .inl (cI, 16, .inl (nF (va_up (va_up (mC2 fpx fpy (mC1 fpx fpy (16 * s_) (16 * s_ + ct s_) od (ct s_)).1 j) ((j + 1)) (((mC2 fpx fpy (mC1 fpx fpy (16 * s_) (16 * s_ + ct s_) od (ct s_)).1 j) 0))) 0 (((mC2 fpx fpy (mC1 fpx fpy (16 * s_) (16 * s_ + ct s_) od (ct s_)).1 j) ((j + 1))))))))] H := hP
                have hD : va_D A [(om, .inr (5, [.int (nI cd), .int (nI ns), .ref apx, .ref apy, .ref act, .int (nI nb), .ref asd, .ref amv, .ref asl, .ref apl, .ref asw, .int (nI nw), .ref aor, .int (nI (mC1 fpx fpy (16 * s_) (16 * s_ + ct s_) od (ct s_)).2), .ref aon, .ref atw, .long mx, .long my, .ref aup, .ref alw, .int (nI nm), .long up, .long lo, .long rx, .long ry])), (apx, .inl (cJ, 256, .inr (.inl fpx))), (apy, .inl (cJ, 256, .inr (.inl fpy))), (act, .inl (cI, 16, .inl (nF ct))), (aor, .inl (cI, 16, .inl (nF (va_up (va_up (mC2 fpx fpy (mC1 fpx fpy (16 * s_) (16 * s_ + ct s_) od (ct s_)).1 j) ((j + 1)) (((mC2 fpx fpy (mC1 fpx fpy (16 * s_) (16 * s_ + ct s_) od (ct s_)).1 j) 0))) 0 (((mC2 fpx fpy (mC1 fpx fpy (16 * s_) (16 * s_ + ct s_) od (ct s_)).1 j) ((j + 1))))))))] := hD
                refine lv_iinc (v := (nI ((j + 1) + 1))) (lv' := [(2, .int (nI ((j + 1) + 1))), (4, .int (nI ((mC2 fpx fpy (mC1 fpx fpy (16 * s_) (16 * s_ + ct s_) od (ct s_)).1 j) 0))), (3, .int (nI ((mC2 fpx fpy (mC1 fpx fpy (16 * s_) (16 * s_ + ct s_) od (ct s_)).1 j) ((j + 1))))), (0, .ref om), (1, .int (nI s_))]) hx hb dX5_findCorners_231 hl (k := 4) rfl (show (nI (j + 1)) + Int32.ofInt 1 = nI ((j + 1) + 1) from nI_add ((j + 1)) 1) (by decide) rfl (fun ls hl => ?_)
                refine lv_goto (tgt := 142) hx hb dX5_findCorners_234 (by decide) ?_
                have hE := mC2_y (fpx := fpx) (fpy := fpy) (o := (mC1 fpx fpy (16 * s_) (16 * s_ + ct s_) od (ct s_)).1) (j := j) (by first | exact Or.inl c179 | exact Or.inr ⟨c196, c213⟩)
                have hw : ([(om, .inr (5, [.int (nI cd), .int (nI ns), .ref apx, .ref apy, .ref act, .int (nI nb), .ref asd, .ref amv, .ref asl, .ref apl, .ref asw, .int (nI nw), .ref aor, .int (nI (mC1 fpx fpy (16 * s_) (16 * s_ + ct s_) od (ct s_)).2), .ref aon, .ref atw, .long mx, .long my, .ref aup, .ref alw, .int (nI nm), .long up, .long lo, .long rx, .long ry])), (apx, .inl (cJ, 256, .inr (.inl fpx))), (apy, .inl (cJ, 256, .inr (.inl fpy))), (act, .inl (cI, 16, .inl (nF ct))), (aor, .inl (cI, 16, .inl (nF (va_up (va_up (mC2 fpx fpy (mC1 fpx fpy (16 * s_) (16 * s_ + ct s_) od (ct s_)).1 j) ((j + 1)) (((mC2 fpx fpy (mC1 fpx fpy (16 * s_) (16 * s_ + ct s_) od (ct s_)).1 j) 0))) 0 (((mC2 fpx fpy (mC1 fpx fpy (16 * s_) (16 * s_ + ct s_) od (ct s_)).1 j) ((j + 1))))))))] : va_W) = [(om, .inr (5, [.int (nI cd), .int (nI ns), .ref apx, .ref apy, .ref act, .int (nI nb), .ref asd, .ref amv, .ref asl, .ref apl, .ref asw, .int (nI nw), .ref aor, .int (nI (mC1 fpx fpy (16 * s_) (16 * s_ + ct s_) od (ct s_)).2), .ref aon, .ref atw, .long mx, .long my, .ref aup, .ref alw, .int (nI nm), .long up, .long lo, .long rx, .long ry])), (apx, .inl (cJ, 256, .inr (.inl fpx))), (apy, .inl (cJ, 256, .inr (.inl fpy))), (act, .inl (cI, 16, .inl (nF ct))), (aor, .inl (cI, 16, .inl (nF (mC2 fpx fpy (mC1 fpx fpy (16 * s_) (16 * s_ + ct s_) od (ct s_)).1 (j + 1)))))] := by rw [hE]
                rw [hw] at hP hD
                exact ih142 (j + 1) _ _ _ ⟨hP, hD, hS, lv_sub hl [3, 4, 0] rfl, (by omega)⟩ (by simp only []; omega)
      · exact ⟨hP, hD, hS, lv_sub hl [1, 2, 0] rfl, Or.inl rfl⟩
    · rw [nI_leI (by omega) (by omega), Nat.not_le] at c22
      refine lv_iconst (v := (nI 0)) hx hb dX5_findCorners_25 (by decide) ?_
      refine lv_istore_n (lv' := [(3, .int (nI 0)), (0, .ref om), (1, .int (nI s_)), (2, .int (nI (16 * s_ + k)))]) hx hb dX5_findCorners_26 rfl hl (by decide) rfl (fun ls hl => ?_)
      refine lv_bipush (v := (nI 16)) hx hb dX5_findCorners_27 (by decide) ?_
      refine lv_iload_n hx hb dX5_findCorners_29 rfl (lv_at hl 2 rfl) ?_
      refine lv_imul hx hb dX5_findCorners_30 ?_
      rw [show (nI 16) * (nI s_) = (nI (16 * s_)) from pk_mul 16 s_]
      refine lv_istore (lv' := [(4, .int (nI (16 * s_))), (3, .int (nI 0)), (0, .ref om), (1, .int (nI s_)), (2, .int (nI (16 * s_ + k)))]) hx hb dX5_findCorners_31 hl (by decide) rfl (fun ls hl => ?_)
      refine kLoop (σ := Nat × Bool) (fun xz H locs ls => match xz with | (b, ag) => (va_P (dC, dI) vwCl [(om, .inr (5, [.int (nI cd), .int (nI ns), .ref apx, .ref apy, .ref act, .int (nI nb), .ref asd, .ref amv, .ref asl, .ref apl, .ref asw, .int (nI nw), .ref aor, .int (nI (mC1 fpx fpy (16 * s_) (16 * s_ + ct s_) od k).2), .ref aon, .ref atw, .long mx, .long my, .ref aup, .ref alw, .int (nI nm), .long up, .long lo, .long rx, .long ry])), (apx, .inl (cJ, 256, .inr (.inl fpx))), (apy, .inl (cJ, 256, .inr (.inl fpy))), (act, .inl (cI, 16, .inl (nF ct))), (aor, .inl (cI, 16, .inl (nF (mC1 fpx fpy (16 * s_) (16 * s_ + ct s_) od k).1)))] H) ∧ (va_D A [(om, .inr (5, [.int (nI cd), .int (nI ns), .ref apx, .ref apy, .ref act, .int (nI nb), .ref asd, .ref amv, .ref asl, .ref apl, .ref asw, .int (nI nw), .ref aor, .int (nI (mC1 fpx fpy (16 * s_) (16 * s_ + ct s_) od k).2), .ref aon, .ref atw, .long mx, .long my, .ref aup, .ref alw, .int (nI nm), .long up, .long lo, .long rx, .long ry])), (apx, .inl (cJ, 256, .inr (.inl fpx))), (apy, .inl (cJ, 256, .inr (.inl fpy))), (act, .inl (cI, 16, .inl (nF ct))), (aor, .inl (cI, 16, .inl (nF (mC1 fpx fpy (16 * s_) (16 * s_ + ct s_) od k).1)))]) ∧ (va_S A s.heap H locs) ∧ (lv_has ls 5 [(0, .ref om), (1, .int (nI s_)), (2, .int (nI (16 * s_ + k))), (3, .int (bI ag)), (4, .int (nI b))]) ∧ (16 * s_ ≤ b ∧ b ≤ 16 * s_ + k ∧ (ag = true ↔ ∃ j, 16 * s_ ≤ j ∧ j < b ∧ fpx (16 * s_ + k) = fpx j ∧ fpy (16 * s_ + k) = fpy j))) (fun xz => match xz with | (b, ag) => 16 * s_ + k - b) ?_ (16 * s_, false) ?_
      · rintro ⟨b, ag⟩ H locs ls hI ih33
        obtain ⟨hP, hD, hS, hl, hi33_⟩ := hI
        obtain ⟨hlb, hub, hag⟩ := hi33_
        refine lv_iload hx hb dX5_findCorners_33 (lv_at hl 4 rfl) ?_
        refine lv_iload_n hx hb dX5_findCorners_35 rfl (lv_at hl 2 rfl) ?_
        refine lv_icmp_ge (tgt := 89) hx hb dX5_findCorners_36 (by decide) (fun c36 => ?_) (fun c36 => ?_)
        · rw [nI_leI (by omega) (by omega)] at c36
          refine lv_iload_n hx hb dX5_findCorners_89 rfl (lv_at hl 3 rfl) ?_
          refine lv_if_ne (tgt := 134) hx hb dX5_findCorners_90 (by decide) (fun c90 => ?_) (fun c90 => ?_)
          · replace c90 := bI_n c90
            refine lv_iinc (v := (nI ((16 * s_ + k) + 1))) (lv' := [(2, .int (nI ((16 * s_ + k) + 1))), (0, .ref om), (1, .int (nI s_)), (3, .int (bI ag)), (4, .int (nI b))]) hx hb dX5_findCorners_134 hl (k := 2) rfl (show (nI (16 * s_ + k)) + Int32.ofInt 1 = nI ((16 * s_ + k) + 1) from nI_add ((16 * s_ + k)) 1) (by decide) rfl (fun ls hl => ?_)
            refine lv_goto (tgt := 10) hx hb dX5_findCorners_137 (by decide) ?_
            have hE := mC1_n (fpx := fpx) (fpy := fpy) (fr := 16 * s_) (to := (16 * s_ + ct s_)) (od := od) (k := k) (fun z => z.1 (by obtain ⟨j, h1, h2, h3⟩ := hag.mp c90; exact ⟨j, h1, by omega, h3⟩))
            have hw : ([(om, .inr (5, [.int (nI cd), .int (nI ns), .ref apx, .ref apy, .ref act, .int (nI nb), .ref asd, .ref amv, .ref asl, .ref apl, .ref asw, .int (nI nw), .ref aor, .int (nI (mC1 fpx fpy (16 * s_) (16 * s_ + ct s_) od k).2), .ref aon, .ref atw, .long mx, .long my, .ref aup, .ref alw, .int (nI nm), .long up, .long lo, .long rx, .long ry])), (apx, .inl (cJ, 256, .inr (.inl fpx))), (apy, .inl (cJ, 256, .inr (.inl fpy))), (act, .inl (cI, 16, .inl (nF ct))), (aor, .inl (cI, 16, .inl (nF (mC1 fpx fpy (16 * s_) (16 * s_ + ct s_) od k).1)))] : va_W) = [(om, .inr (5, [.int (nI cd), .int (nI ns), .ref apx, .ref apy, .ref act, .int (nI nb), .ref asd, .ref amv, .ref asl, .ref apl, .ref asw, .int (nI nw), .ref aor, .int (nI (mC1 fpx fpy (16 * s_) (16 * s_ + ct s_) od (k + 1)).2), .ref aon, .ref atw, .long mx, .long my, .ref aup, .ref alw, .int (nI nm), .long up, .long lo, .long rx, .long ry])), (apx, .inl (cJ, 256, .inr (.inl fpx))), (apy, .inl (cJ, 256, .inr (.inl fpy))), (act, .inl (cI, 16, .inl (nF ct))), (aor, .inl (cI, 16, .inl (nF (mC1 fpx fpy (16 * s_) (16 * s_ + ct s_) od (k + 1)).1)))] := by rw [hE]
            rw [hw] at hP hD
            exact ih10 (k + 1) _ _ _ ⟨hP, hD, hS, lv_sub hl [1, 2, 0] rfl, (by omega)⟩ (by simp only []; omega)
          · replace c90 := bI_0 c90
            refine lv_aload_n hx hb dX5_findCorners_93 rfl (lv_at hl 0 rfl) ?_
            refine lv_iload_n hx hb dX5_findCorners_94 rfl (lv_at hl 1 rfl) ?_
            refine lv_aload_n hx hb dX5_findCorners_95 rfl (lv_at hl 0 rfl) ?_
            refine va_get (D := (dC, dI)) (ci := 5) (v := .ref apx) (C := RX5) (T := TX5) (N := 25) hx hb hts hi5 hown hK hP 0 rfl rfl 2 (by decide) f7 (fun _ h9 => h9) rfl dX5_findCorners_96 ?_
            refine lv_iload_n hx hb dX5_findCorners_99 rfl (lv_at hl 2 rfl) ?_
            refine va_lald hx hb hK hP 1 0 rfl rfl (vp_in_nI (show (16 * s_ + k) < 256 by omega) (by omega)) dX5_findCorners_100 ?_
            rw [show (nI (16 * s_ + k)).toNatClampNeg = (16 * s_ + k) from nI_clamp (show (16 * s_ + k) < 2 ^ 31 by omega)]
            refine lv_aload_n hx hb dX5_findCorners_101 rfl (lv_at hl 0 rfl) ?_
            refine va_get (D := (dC, dI)) (ci := 5) (v := .ref apy) (C := RX5) (T := TX5) (N := 25) hx hb hts hi5 hown hK hP 0 rfl rfl 3 (by decide) f13 (fun _ h9 => h9) rfl dX5_findCorners_102 ?_
            refine lv_iload_n hx hb dX5_findCorners_105 rfl (lv_at hl 2 rfl) ?_
            refine va_lald hx hb hK hP 2 0 rfl rfl (vp_in_nI (show (16 * s_ + k) < 256 by omega) (by omega)) dX5_findCorners_106 ?_
            rw [show (nI (16 * s_ + k)).toNatClampNeg = (16 * s_ + k) from nI_clamp (show (16 * s_ + k) < 2 ^ 31 by omega)]
            refine lv_iconst (v := (nI 1)) hx hb dX5_findCorners_107 (by decide) ?_
            refine kpVi (q0 := 0) (ci := 5) (As := [.int (nI s_), .long (fpx ((16 * s_ + k))), .long (fpy ((16 * s_ + k))), .int (nI 1)]) (rest := []) (WC := [(om, .inr (5, [.int (nI cd), .int (nI ns), .ref apx, .ref apy, .ref act, .int (nI nb), .ref asd, .ref amv, .ref asl, .ref apl, .ref asw, .int (nI nw), .ref aor, .int (nI (mC1 fpx fpy (16 * s_) (16 * s_ + ct s_) od k).2), .ref aon, .ref atw, .long mx, .long my, .ref aup, .ref alw, .int (nI nm), .long up, .long lo, .long rx, .long ry])), (apx, .inl (cJ, 256, .inr (.inl fpx))), (apy, .inl (cJ, 256, .inr (.inl fpy))), (act, .inl (cI, 16, .inl (nF ct)))]) (tyC := [(cJ, .long), (cI, .int), (cZ, .boolean)]) ⟨hx, hb, hml, hown, hts⟩ (tX5_isInside l dC dI cJ cI cZ om cd ns apx apy act nb asd amv asl apl asw nw aor ((mC1 fpx fpy (16 * s_) (16 * s_ + ct s_) od k).2) aon atw aup alw nm mx my up lo rx ry fpx fpy ct s_ (fpx ((16 * s_ + k))) (fpy ((16 * s_ + k))) true (by omega) (by omega)) (cwV 4 hts gX5_findCorners_X5_isInside rfl rfl rfl (by decide +kernel) ⟨Nat.le_of_ble_eq_true rfl, Nat.le_of_ble_eq_true rfl⟩) (kPick (isC := [0, 1, 2, 3]) hP rfl) (hK.sub [0, 1, 2] rfl) rfl rfl rfl rfl hl.1 (Nat.le_of_ble_eq_true rfl) dX5_findCorners_108 ⟨Nat.le_of_ble_eq_true rfl, Nat.le_of_ble_eq_true rfl⟩ ?_
            refine lv_if_ne (tgt := 134) hx hb dX5_findCorners_111 (by decide) (fun c111 => ?_) (fun c111 => ?_)
            · replace c111 := bI_n c111; replace c111 := pB_iff.mp c111
              refine lv_iinc (v := (nI ((16 * s_ + k) + 1))) (lv' := [(2, .int (nI ((16 * s_ + k) + 1))), (0, .ref om), (1, .int (nI s_)), (3, .int (bI ag)), (4, .int (nI b))]) hx hb dX5_findCorners_134 hl (k := 2) rfl (show (nI (16 * s_ + k)) + Int32.ofInt 1 = nI ((16 * s_ + k) + 1) from nI_add ((16 * s_ + k)) 1) (by decide) rfl (fun ls hl => ?_)
              refine lv_goto (tgt := 10) hx hb dX5_findCorners_137 (by decide) ?_
              have hE := mC1_n (fpx := fpx) (fpy := fpy) (fr := 16 * s_) (to := (16 * s_ + ct s_)) (od := od) (k := k) (fun z => z.2 c111)
              have hw : ([(om, .inr (5, [.int (nI cd), .int (nI ns), .ref apx, .ref apy, .ref act, .int (nI nb), .ref asd, .ref amv, .ref asl, .ref apl, .ref asw, .int (nI nw), .ref aor, .int (nI (mC1 fpx fpy (16 * s_) (16 * s_ + ct s_) od k).2), .ref aon, .ref atw, .long mx, .long my, .ref aup, .ref alw, .int (nI nm), .long up, .long lo, .long rx, .long ry])), (apx, .inl (cJ, 256, .inr (.inl fpx))), (apy, .inl (cJ, 256, .inr (.inl fpy))), (act, .inl (cI, 16, .inl (nF ct))), (aor, .inl (cI, 16, .inl (nF (mC1 fpx fpy (16 * s_) (16 * s_ + ct s_) od k).1)))] : va_W) = [(om, .inr (5, [.int (nI cd), .int (nI ns), .ref apx, .ref apy, .ref act, .int (nI nb), .ref asd, .ref amv, .ref asl, .ref apl, .ref asw, .int (nI nw), .ref aor, .int (nI (mC1 fpx fpy (16 * s_) (16 * s_ + ct s_) od (k + 1)).2), .ref aon, .ref atw, .long mx, .long my, .ref aup, .ref alw, .int (nI nm), .long up, .long lo, .long rx, .long ry])), (apx, .inl (cJ, 256, .inr (.inl fpx))), (apy, .inl (cJ, 256, .inr (.inl fpy))), (act, .inl (cI, 16, .inl (nF ct))), (aor, .inl (cI, 16, .inl (nF (mC1 fpx fpy (16 * s_) (16 * s_ + ct s_) od (k + 1)).1)))] := by rw [hE]
              rw [hw] at hP hD
              exact ih10 (k + 1) _ _ _ ⟨hP, hD, hS, lv_sub hl [1, 2, 0] rfl, (by omega)⟩ (by simp only []; omega)
            · replace c111 := bI_0 c111; replace c111 := pB_not c111
              refine lv_aload_n hx hb dX5_findCorners_114 rfl (lv_at hl 0 rfl) ?_
              refine va_get (D := (dC, dI)) (ci := 5) (v := .ref aor) (C := RX5) (T := TX5) (N := 25) hx hb hts hi5 hown hK hP 0 rfl rfl 12 (by decide) f36 (fun _ h9 => h9) rfl dX5_findCorners_115 ?_
              refine lv_aload_n hx hb dX5_findCorners_118 rfl (lv_at hl 0 rfl) ?_
              refine va_get (D := (dC, dI)) (ci := 5) (v := .int (nI (mC1 fpx fpy (16 * s_) (16 * s_ + ct s_) od k).2)) (C := RX5) (T := TX5) (N := 25) hx hb hts hi5 hown hK hP 0 rfl rfl 13 (by decide) f103 (fun _ h9 => h9) rfl dX5_findCorners_119 ?_
              refine lv_iload_n hx hb dX5_findCorners_122 rfl (lv_at hl 2 rfl) ?_
              refine va_iast hx hb hK hP hD hS 4 1 rfl rfl (vp_in_nI (show (mC1 fpx fpy (16 * s_) (16 * s_ + ct s_) od k).2 < 16 by omega) (by omega)) dX5_findCorners_123 (fun H locs hP hD hS => ?_)
              rw [show (nI (mC1 fpx fpy (16 * s_) (16 * s_ + ct s_) od k).2).toNatClampNeg = (mC1 fpx fpy (16 * s_) (16 * s_ + ct s_) od k).2 from nI_clamp (show (mC1 fpx fpy (16 * s_) (16 * s_ + ct s_) od k).2 < 2 ^ 31 by omega)] at hP hD
              rw [show upd (nF (mC1 fpx fpy (16 * s_) (16 * s_ + ct s_) od k).1) ((mC1 fpx fpy (16 * s_) (16 * s_ + ct s_) od k).2) (nI (16 * s_ + k)) = (nF (va_up (mC1 fpx fpy (16 * s_) (16 * s_ + ct s_) od k).1 ((mC1 fpx fpy (16 * s_) (16 * s_ + ct s_) od k).2) ((16 * s_ + k)))) from nF_upd _ _ _] at hP hD
              have hP : va_P (dC, dI) vwCl [(om, .inr (5, [.int (nI cd), .int (nI ns), .ref apx, .ref apy, .ref act, .int (nI nb), .ref asd, .ref amv, .ref asl, .ref apl, .ref asw, .int (nI nw), .ref aor, .int (nI (mC1 fpx fpy (16 * s_) (16 * s_ + ct s_) od k).2), .ref aon, .ref atw, .long mx, .long my, .ref aup, .ref alw, .int (nI nm), .long up, .long lo, .long rx, .long ry])), (apx, .inl (cJ, 256, .inr (.inl fpx))), (apy, .inl (cJ, 256, .inr (.inl fpy))), (act, .inl (cI, 16, .inl (nF ct))), (aor, .inl (cI, 16, .inl (nF (va_up (mC1 fpx fpy (16 * s_) (16 * s_ + ct s_) od k).1 ((mC1 fpx fpy (16 * s_) (16 * s_ + ct s_) od k).2) ((16 * s_ + k))))))] H := hP
              have hD : va_D A [(om, .inr (5, [.int (nI cd), .int (nI ns), .ref apx, .ref apy, .ref act, .int (nI nb), .ref asd, .ref amv, .ref asl, .ref apl, .ref asw, .int (nI nw), .ref aor, .int (nI (mC1 fpx fpy (16 * s_) (16 * s_ + ct s_) od k).2), .ref aon, .ref atw, .long mx, .long my, .ref aup, .ref alw, .int (nI nm), .long up, .long lo, .long rx, .long ry])), (apx, .inl (cJ, 256, .inr (.inl fpx))), (apy, .inl (cJ, 256, .inr (.inl fpy))), (act, .inl (cI, 16, .inl (nF ct))), (aor, .inl (cI, 16, .inl (nF (va_up (mC1 fpx fpy (16 * s_) (16 * s_ + ct s_) od k).1 ((mC1 fpx fpy (16 * s_) (16 * s_ + ct s_) od k).2) ((16 * s_ + k))))))] := hD
              refine lv_aload_n hx hb dX5_findCorners_124 rfl (lv_at hl 0 rfl) ?_
              refine lv_dup hx hb dX5_findCorners_125 rfl ?_
              refine va_get (D := (dC, dI)) (ci := 5) (v := .int (nI (mC1 fpx fpy (16 * s_) (16 * s_ + ct s_) od k).2)) (C := RX5) (T := TX5) (N := 25) hx hb hts hi5 hown hK hP 0 rfl rfl 13 (by decide) f103 (fun _ h9 => h9) rfl dX5_findCorners_126 ?_
              refine lv_iconst (v := (nI 1)) hx hb dX5_findCorners_129 (by decide) ?_
              refine lv_iadd hx hb dX5_findCorners_130 ?_
              rw [show (nI (mC1 fpx fpy (16 * s_) (16 * s_ + ct s_) od k).2) + (nI 1) = (nI (((mC1 fpx fpy (16 * s_) (16 * s_ + ct s_) od k).2) + 1)) from nI_add ((mC1 fpx fpy (16 * s_) (16 * s_ + ct s_) od k).2) 1]
              refine va_put (D := (dC, dI)) (ci := 5) (v := .int (nI (((mC1 fpx fpy (16 * s_) (16 * s_ + ct s_) od k).2) + 1))) (ty := .int) (C := RX5) (T := TX5) (N := 25) hx hb hts hi5 tyX5 tyX5_ok nmX5 hown hK hP hD hS 0 rfl rfl 13 (by decide) f103 (fun _ h9 => h9) rfl (by decide +kernel) rfl rfl (Nat.le_of_ble_eq_true rfl) dX5_findCorners_131 (fun H locs hP hD hS => ?_)
              have hP : va_P (dC, dI) vwCl [(om, .inr (5, [.int (nI cd), .int (nI ns), .ref apx, .ref apy, .ref act, .int (nI nb), .ref asd, .ref amv, .ref asl, .ref apl, .ref asw, .int (nI nw), .ref aor, .int (nI (((mC1 fpx fpy (16 * s_) (16 * s_ + ct s_) od k).2) + 1)), .ref aon, .ref atw, .long mx, .long my, .ref aup, .ref alw, .int (nI nm), .long up, .long lo, .long rx, .long ry])), (apx, .inl (cJ, 256, .inr (.inl fpx))), (apy, .inl (cJ, 256, .inr (.inl fpy))), (act, .inl (cI, 16, .inl (nF ct))), (aor, .inl (cI, 16, .inl (nF (va_up (mC1 fpx fpy (16 * s_) (16 * s_ + ct s_) od k).1 ((mC1 fpx fpy (16 * s_) (16 * s_ + ct s_) od k).2) ((16 * s_ + k))))))] H := hP
              have hD : va_D A [(om, .inr (5, [.int (nI cd), .int (nI ns), .ref apx, .ref apy, .ref act, .int (nI nb), .ref asd, .ref amv, .ref asl, .ref apl, .ref asw, .int (nI nw), .ref aor, .int (nI (((mC1 fpx fpy (16 * s_) (16 * s_ + ct s_) od k).2) + 1)), .ref aon, .ref atw, .long mx, .long my, .ref aup, .ref alw, .int (nI nm), .long up, .long lo, .long rx, .long ry])), (apx, .inl (cJ, 256, .inr (.inl fpx))), (apy, .inl (cJ, 256, .inr (.inl fpy))), (act, .inl (cI, 16, .inl (nF ct))), (aor, .inl (cI, 16, .inl (nF (va_up (mC1 fpx fpy (16 * s_) (16 * s_ + ct s_) od k).1 ((mC1 fpx fpy (16 * s_) (16 * s_ + ct s_) od k).2) ((16 * s_ + k))))))] := hD
              refine lv_iinc (v := (nI ((16 * s_ + k) + 1))) (lv' := [(2, .int (nI ((16 * s_ + k) + 1))), (0, .ref om), (1, .int (nI s_)), (3, .int (bI ag)), (4, .int (nI b))]) hx hb dX5_findCorners_134 hl (k := 2) rfl (show (nI (16 * s_ + k)) + Int32.ofInt 1 = nI ((16 * s_ + k) + 1) from nI_add ((16 * s_ + k)) 1) (by decide) rfl (fun ls hl => ?_)
              refine lv_goto (tgt := 10) hx hb dX5_findCorners_137 (by decide) ?_
              have hE := mC1_y (fpx := fpx) (fpy := fpy) (fr := 16 * s_) (to := (16 * s_ + ct s_)) (od := od) (k := k) ⟨fun z => absurd (hag.mpr (by obtain ⟨j, h1, h2, h3⟩ := z; exact ⟨j, h1, by omega, h3⟩)) (by rw [c90]; decide), c111⟩
              have hw : ([(om, .inr (5, [.int (nI cd), .int (nI ns), .ref apx, .ref apy, .ref act, .int (nI nb), .ref asd, .ref amv, .ref asl, .ref apl, .ref asw, .int (nI nw), .ref aor, .int (nI (((mC1 fpx fpy (16 * s_) (16 * s_ + ct s_) od k).2) + 1)), .ref aon, .ref atw, .long mx, .long my, .ref aup, .ref alw, .int (nI nm), .long up, .long lo, .long rx, .long ry])), (apx, .inl (cJ, 256, .inr (.inl fpx))), (apy, .inl (cJ, 256, .inr (.inl fpy))), (act, .inl (cI, 16, .inl (nF ct))), (aor, .inl (cI, 16, .inl (nF (va_up (mC1 fpx fpy (16 * s_) (16 * s_ + ct s_) od k).1 ((mC1 fpx fpy (16 * s_) (16 * s_ + ct s_) od k).2) ((16 * s_ + k))))))] : va_W) = [(om, .inr (5, [.int (nI cd), .int (nI ns), .ref apx, .ref apy, .ref act, .int (nI nb), .ref asd, .ref amv, .ref asl, .ref apl, .ref asw, .int (nI nw), .ref aor, .int (nI (mC1 fpx fpy (16 * s_) (16 * s_ + ct s_) od (k + 1)).2), .ref aon, .ref atw, .long mx, .long my, .ref aup, .ref alw, .int (nI nm), .long up, .long lo, .long rx, .long ry])), (apx, .inl (cJ, 256, .inr (.inl fpx))), (apy, .inl (cJ, 256, .inr (.inl fpy))), (act, .inl (cI, 16, .inl (nF ct))), (aor, .inl (cI, 16, .inl (nF (mC1 fpx fpy (16 * s_) (16 * s_ + ct s_) od (k + 1)).1)))] := by rw [hE]
              rw [hw] at hP hD
              exact ih10 (k + 1) _ _ _ ⟨hP, hD, hS, lv_sub hl [1, 2, 0] rfl, (by omega)⟩ (by simp only []; omega)
        · rw [nI_leI (by omega) (by omega), Nat.not_le] at c36
          refine lv_iload_n hx hb dX5_findCorners_39 rfl (lv_at hl 3 rfl) ?_
          refine lv_if_ne (tgt := 77) hx hb dX5_findCorners_40 (by decide) (fun c40 => ?_) (fun c40 => ?_)
          · replace c40 := bI_n c40
            refine lv_iconst (v := (nI 1)) hx hb dX5_findCorners_77 (by decide) ?_
            refine lv_goto (tgt := 82) hx hb dX5_findCorners_78 (by decide) ?_
            refine lv_istore_n (lv' := [(3, .int (nI 1)), (0, .ref om), (1, .int (nI s_)), (2, .int (nI (16 * s_ + k))), (4, .int (nI b))]) hx hb dX5_findCorners_82 rfl hl (by decide) rfl (fun ls hl => ?_)
            refine lv_iinc (v := (nI (b + 1))) (lv' := [(4, .int (nI (b + 1))), (3, .int (nI 1)), (0, .ref om), (1, .int (nI s_)), (2, .int (nI (16 * s_ + k)))]) hx hb dX5_findCorners_83 hl (k := 4) rfl (show (nI b) + Int32.ofInt 1 = nI (b + 1) from nI_add b 1) (by decide) rfl (fun ls hl => ?_)
            refine lv_goto (tgt := 33) hx hb dX5_findCorners_86 (by decide) ?_
            exact ih33 (b + 1, true) _ _ _ ⟨hP, hD, hS, lv_sub hl [2, 3, 4, 1, 0] rfl, ⟨by omega, by omega, fun _ => (by obtain ⟨j, h1, h2, h3⟩ := hag.mp c40; exact ⟨j, h1, by omega, h3⟩), fun _ => rfl⟩⟩ (by simp only []; omega)
          · replace c40 := bI_0 c40
            refine lv_aload_n hx hb dX5_findCorners_43 rfl (lv_at hl 0 rfl) ?_
            refine va_get (D := (dC, dI)) (ci := 5) (v := .ref apx) (C := RX5) (T := TX5) (N := 25) hx hb hts hi5 hown hK hP 0 rfl rfl 2 (by decide) f7 (fun _ h9 => h9) rfl dX5_findCorners_44 ?_
            refine lv_iload_n hx hb dX5_findCorners_47 rfl (lv_at hl 2 rfl) ?_
            refine va_lald hx hb hK hP 1 0 rfl rfl (vp_in_nI (show (16 * s_ + k) < 256 by omega) (by omega)) dX5_findCorners_48 ?_
            rw [show (nI (16 * s_ + k)).toNatClampNeg = (16 * s_ + k) from nI_clamp (show (16 * s_ + k) < 2 ^ 31 by omega)]
            refine lv_aload_n hx hb dX5_findCorners_49 rfl (lv_at hl 0 rfl) ?_
            refine va_get (D := (dC, dI)) (ci := 5) (v := .ref apx) (C := RX5) (T := TX5) (N := 25) hx hb hts hi5 hown hK hP 0 rfl rfl 2 (by decide) f7 (fun _ h9 => h9) rfl dX5_findCorners_50 ?_
            refine lv_iload hx hb dX5_findCorners_53 (lv_at hl 4 rfl) ?_
            refine va_lald hx hb hK hP 1 0 rfl rfl (vp_in_nI (show b < 256 by omega) (by omega)) dX5_findCorners_55 ?_
            rw [show (nI b).toNatClampNeg = b from nI_clamp (show b < 2 ^ 31 by omega)]
            refine W.lcmp hx hb dX5_findCorners_56 ?_
            refine lv_if_ne (tgt := 81) hx hb dX5_findCorners_57 (by decide) (fun c57 => ?_) (fun c57 => ?_)
            · simp only [ne_eq, lg_cmp_eq] at c57
              refine lv_iconst (v := (nI 0)) hx hb dX5_findCorners_81 (by decide) ?_
              refine lv_istore_n (lv' := [(3, .int (nI 0)), (0, .ref om), (1, .int (nI s_)), (2, .int (nI (16 * s_ + k))), (4, .int (nI b))]) hx hb dX5_findCorners_82 rfl hl (by decide) rfl (fun ls hl => ?_)
              refine lv_iinc (v := (nI (b + 1))) (lv' := [(4, .int (nI (b + 1))), (3, .int (nI 0)), (0, .ref om), (1, .int (nI s_)), (2, .int (nI (16 * s_ + k)))]) hx hb dX5_findCorners_83 hl (k := 4) rfl (show (nI b) + Int32.ofInt 1 = nI (b + 1) from nI_add b 1) (by decide) rfl (fun ls hl => ?_)
              refine lv_goto (tgt := 33) hx hb dX5_findCorners_86 (by decide) ?_
              exact ih33 (b + 1, false) _ _ _ ⟨hP, hD, hS, lv_sub hl [2, 3, 4, 1, 0] rfl, ⟨by omega, by omega, fun h => absurd h (by decide), fun ⟨j, h1, h2, h3, h4⟩ => by rcases Nat.lt_or_ge j b with hq | hq; exact absurd (hag.mpr ⟨j, h1, hq, h3, h4⟩) (by rw [c40]; decide); (obtain rfl : j = b := by omega); first | exact absurd h3 c57 | exact absurd h4 c74⟩⟩ (by simp only []; omega)
            · simp only [ne_eq, Decidable.not_not, lg_cmp_eq] at c57
              refine lv_aload_n hx hb dX5_findCorners_60 rfl (lv_at hl 0 rfl) ?_
              refine va_get (D := (dC, dI)) (ci := 5) (v := .ref apy) (C := RX5) (T := TX5) (N := 25) hx hb hts hi5 hown hK hP 0 rfl rfl 3 (by decide) f13 (fun _ h9 => h9) rfl dX5_findCorners_61 ?_
              refine lv_iload_n hx hb dX5_findCorners_64 rfl (lv_at hl 2 rfl) ?_
              refine va_lald hx hb hK hP 2 0 rfl rfl (vp_in_nI (show (16 * s_ + k) < 256 by omega) (by omega)) dX5_findCorners_65 ?_
              rw [show (nI (16 * s_ + k)).toNatClampNeg = (16 * s_ + k) from nI_clamp (show (16 * s_ + k) < 2 ^ 31 by omega)]
              refine lv_aload_n hx hb dX5_findCorners_66 rfl (lv_at hl 0 rfl) ?_
              refine va_get (D := (dC, dI)) (ci := 5) (v := .ref apy) (C := RX5) (T := TX5) (N := 25) hx hb hts hi5 hown hK hP 0 rfl rfl 3 (by decide) f13 (fun _ h9 => h9) rfl dX5_findCorners_67 ?_
              refine lv_iload hx hb dX5_findCorners_70 (lv_at hl 4 rfl) ?_
              refine va_lald hx hb hK hP 2 0 rfl rfl (vp_in_nI (show b < 256 by omega) (by omega)) dX5_findCorners_72 ?_
              rw [show (nI b).toNatClampNeg = b from nI_clamp (show b < 2 ^ 31 by omega)]
              refine W.lcmp hx hb dX5_findCorners_73 ?_
              refine lv_if_ne (tgt := 81) hx hb dX5_findCorners_74 (by decide) (fun c74 => ?_) (fun c74 => ?_)
              · simp only [ne_eq, lg_cmp_eq] at c74
                refine lv_iconst (v := (nI 0)) hx hb dX5_findCorners_81 (by decide) ?_
                refine lv_istore_n (lv' := [(3, .int (nI 0)), (0, .ref om), (1, .int (nI s_)), (2, .int (nI (16 * s_ + k))), (4, .int (nI b))]) hx hb dX5_findCorners_82 rfl hl (by decide) rfl (fun ls hl => ?_)
                refine lv_iinc (v := (nI (b + 1))) (lv' := [(4, .int (nI (b + 1))), (3, .int (nI 0)), (0, .ref om), (1, .int (nI s_)), (2, .int (nI (16 * s_ + k)))]) hx hb dX5_findCorners_83 hl (k := 4) rfl (show (nI b) + Int32.ofInt 1 = nI (b + 1) from nI_add b 1) (by decide) rfl (fun ls hl => ?_)
                refine lv_goto (tgt := 33) hx hb dX5_findCorners_86 (by decide) ?_
                exact ih33 (b + 1, false) _ _ _ ⟨hP, hD, hS, lv_sub hl [2, 3, 4, 1, 0] rfl, ⟨by omega, by omega, fun h => absurd h (by decide), fun ⟨j, h1, h2, h3, h4⟩ => by rcases Nat.lt_or_ge j b with hq | hq; exact absurd (hag.mpr ⟨j, h1, hq, h3, h4⟩) (by rw [c40]; decide); (obtain rfl : j = b := by omega); first | exact absurd h3 c57 | exact absurd h4 c74⟩⟩ (by simp only []; omega)
              · simp only [ne_eq, Decidable.not_not, lg_cmp_eq] at c74
                refine lv_iconst (v := (nI 1)) hx hb dX5_findCorners_77 (by decide) ?_
                refine lv_goto (tgt := 82) hx hb dX5_findCorners_78 (by decide) ?_
                refine lv_istore_n (lv' := [(3, .int (nI 1)), (0, .ref om), (1, .int (nI s_)), (2, .int (nI (16 * s_ + k))), (4, .int (nI b))]) hx hb dX5_findCorners_82 rfl hl (by decide) rfl (fun ls hl => ?_)
                refine lv_iinc (v := (nI (b + 1))) (lv' := [(4, .int (nI (b + 1))), (3, .int (nI 1)), (0, .ref om), (1, .int (nI s_)), (2, .int (nI (16 * s_ + k)))]) hx hb dX5_findCorners_83 hl (k := 4) rfl (show (nI b) + Int32.ofInt 1 = nI (b + 1) from nI_add b 1) (by decide) rfl (fun ls hl => ?_)
                refine lv_goto (tgt := 33) hx hb dX5_findCorners_86 (by decide) ?_
                exact ih33 (b + 1, true) _ _ _ ⟨hP, hD, hS, lv_sub hl [2, 3, 4, 1, 0] rfl, ⟨by omega, by omega, fun _ => ⟨b, hlb, by omega, c57, c74⟩, fun _ => rfl⟩⟩ (by simp only []; omega)
      · exact ⟨hP, hD, hS, lv_sub hl [2, 3, 4, 1, 0] rfl, ⟨Nat.le_refl _, by omega, fun h => absurd h (by decide), fun ⟨j, h1, h2, _⟩ => absurd h2 (by omega)⟩⟩
  · exact ⟨hP, hD, hS, lv_sub hl [1, 2, 0] rfl, Nat.zero_le _⟩

set_option maxHeartbeats 4000000 in
set_option maxRecDepth 100000 in
theorem tX5_corners_e (l : Launch) (dC : Nat → ClassId) (dI : Nat → Nat → Nat) (cJ cI cZ : ClassId) (om cd ns apx apy act nb asd amv asl apl asw nw aor nc aon atw aup alw nm : Nat) (mx my up lo rx ry : Int64) (fpx : Nat → Int64) (fpy : Nat → Int64) (ct : Nat → Nat) (od : Nat → Nat) (si : Int32) (hbad : ¬ (0 ≤ si ∧ si < nI ns)) : MMi l yX5_corners wsX5_corners { frames := 1, cells := 0, slots := 0, locals := 21 } [.ref om, .int si] (dC, dI) [(om, .inr (5, [.int (nI cd), .int (nI ns), .ref apx, .ref apy, .ref act, .int (nI nb), .ref asd, .ref amv, .ref asl, .ref apl, .ref asw, .int (nI nw), .ref aor, .int (nI nc), .ref aon, .ref atw, .long mx, .long my, .ref aup, .ref alw, .int (nI nm), .long up, .long lo, .long rx, .long ry])), (apx, .inl (cJ, 256, .inr (.inl fpx))), (apy, .inl (cJ, 256, .inr (.inl fpy))), (act, .inl (cI, 16, .inl (nF ct))), (aor, .inl (cI, 16, .inl (nF od)))] [(om, .inr (5, [.int (nI 1), .int (nI ns), .ref apx, .ref apy, .ref act, .int (nI nb), .ref asd, .ref amv, .ref asl, .ref apl, .ref asw, .int (nI nw), .ref aor, .int (nI nc), .ref aon, .ref atw, .long mx, .long my, .ref aup, .ref alw, .int (nI nm), .long up, .long lo, .long rx, .long ry])), (apx, .inl (cJ, 256, .inr (.inl fpx))), (apy, .inl (cJ, 256, .inr (.inl fpy))), (act, .inl (cI, 16, .inl (nF ct))), (aor, .inl (cI, 16, .inl (nF od)))] [(cJ, .long), (cI, .int), (cZ, .boolean)] (nI 0) := by
  intro sz
  refine kOf (cc := cX5_corners) (maxL := 2) (ret := (some .int)) (by decide) rfl (Nat.le_of_ble_eq_true rfl) ?_
  intro p e s m below meth c hx hb hr hml hts hown hlocks hB ls hl
  obtain ⟨hsz, hP, hK, hD0⟩ := hB
  subst hsz
  have hD := hD0.self (sz := s.heap.size)
  generalize hAe : va_A [(om, .inr (5, [.int (nI cd), .int (nI ns), .ref apx, .ref apy, .ref act, .int (nI nb), .ref asd, .ref amv, .ref asl, .ref apl, .ref asw, .int (nI nw), .ref aor, .int (nI nc), .ref aon, .ref atw, .long mx, .long my, .ref aup, .ref alw, .int (nI nm), .long up, .long lo, .long rx, .long ry])), (apx, .inl (cJ, 256, .inr (.inl fpx))), (apy, .inl (cJ, 256, .inr (.inl fpy))), (act, .inl (cI, 16, .inl (nF ct))), (aor, .inl (cI, 16, .inl (nF od)))] s.heap.size = A at hD ⊢
  have hA : ∀ q : Nat, s.heap.size ≤ q → A q := fun q h => by rw [← hAe]; exact Or.inr h
  have hS : va_S A s.heap s.heap [] := va_S.rf
  have hl : lv_has ls 2 [(0, .ref om), (1, .int si)] := hl
  have hi5 : ∀ w ∈ u_ws RX5 TX5 25, w ∈ wsX5_corners := by decide +kernel
  have f54 := hts (.fieldLink RX5 54 "SweptBoxesModel" "code" "I") (by decide +kernel)
  refine lv_aload_n hx hb dX5_corners_0 rfl (lv_at hl 0 rfl) ?_
  refine lv_aload_n hx hb dX5_corners_1 rfl (lv_at hl 0 rfl) ?_
  refine lv_iload_n hx hb dX5_corners_2 rfl (lv_at hl 1 rfl) ?_
  refine kpVi (q0 := 0) (ci := 5) (As := [.int si]) (rest := [.ref om]) (WC := [(om, .inr (5, [.int (nI cd), .int (nI ns), .ref apx, .ref apy, .ref act, .int (nI nb), .ref asd, .ref amv, .ref asl, .ref apl, .ref asw, .int (nI nw), .ref aor, .int (nI nc), .ref aon, .ref atw, .long mx, .long my, .ref aup, .ref alw, .int (nI nm), .long up, .long lo, .long rx, .long ry]))]) (tyC := [(cJ, .long), (cI, .int), (cZ, .boolean)]) ⟨hx, hb, hml, hown, hts⟩ (tX5_isShape l dC dI cJ cI cZ om cd ns apx apy act nb asd amv asl apl asw nw aor nc aon atw aup alw nm mx my up lo rx ry si) (cwV 1 hts gX5_corners_X5_isShape rfl rfl rfl (by decide +kernel) ⟨Nat.le_of_ble_eq_true rfl, Nat.le_of_ble_eq_true rfl⟩) (kPick (isC := [0]) hP rfl) (hK.sub [0, 1, 2] rfl) rfl rfl rfl rfl hl.1 (Nat.le_of_ble_eq_true rfl) dX5_corners_3 ⟨Nat.le_of_ble_eq_true rfl, Nat.le_of_ble_eq_true rfl⟩ ?_
  refine lv_if_eq (tgt := 13) hx hb dX5_corners_6 (by decide) (fun c6 => ?_) (fun c6 => ?_)
  · replace c6 := bI_0 c6; replace c6 := of_decide_eq_false c6
    refine lv_iconst (v := (nI 1)) hx hb dX5_corners_13 (by decide) ?_
    refine va_put (D := (dC, dI)) (ci := 5) (v := .int (nI 1)) (ty := .int) (C := RX5) (T := TX5) (N := 25) hx hb hts hi5 tyX5 tyX5_ok nmX5 hown hK hP hD hS 0 rfl rfl 0 (by decide) f54 (fun _ h9 => h9) rfl (by decide +kernel) rfl rfl (Nat.le_of_ble_eq_true rfl) dX5_corners_14 (fun H locs hP hD hS => ?_)
    have hP : va_P (dC, dI) vwCl [(om, .inr (5, [.int (nI 1), .int (nI ns), .ref apx, .ref apy, .ref act, .int (nI nb), .ref asd, .ref amv, .ref asl, .ref apl, .ref asw, .int (nI nw), .ref aor, .int (nI nc), .ref aon, .ref atw, .long mx, .long my, .ref aup, .ref alw, .int (nI nm), .long up, .long lo, .long rx, .long ry])), (apx, .inl (cJ, 256, .inr (.inl fpx))), (apy, .inl (cJ, 256, .inr (.inl fpy))), (act, .inl (cI, 16, .inl (nF ct))), (aor, .inl (cI, 16, .inl (nF od)))] H := hP
    have hD : va_D A [(om, .inr (5, [.int (nI 1), .int (nI ns), .ref apx, .ref apy, .ref act, .int (nI nb), .ref asd, .ref amv, .ref asl, .ref apl, .ref asw, .int (nI nw), .ref aor, .int (nI nc), .ref aon, .ref atw, .long mx, .long my, .ref aup, .ref alw, .int (nI nm), .long up, .long lo, .long rx, .long ry])), (apx, .inl (cJ, 256, .inr (.inl fpx))), (apy, .inl (cJ, 256, .inr (.inl fpy))), (act, .inl (cI, 16, .inl (nF ct))), (aor, .inl (cI, 16, .inl (nF od)))] := hD
    refine lv_aload_n hx hb dX5_corners_17 rfl (lv_at hl 0 rfl) ?_
    refine va_get (D := (dC, dI)) (ci := 5) (v := .int (nI 1)) (C := RX5) (T := TX5) (N := 25) hx hb hts hi5 hown hK hP 0 rfl rfl 0 (by decide) f54 (fun _ h9 => h9) rfl dX5_corners_18 ?_
    refine lv_if_le (tgt := 26) hx hb dX5_corners_21 (by decide) (fun c21 => ?_) (fun c21 => ?_)
    · skip
      exact absurd c21 (by decide)
    · rw [← nI_0, nI_leI (by omega) (by omega), Nat.not_le] at c21
      refine lv_iconst (v := (nI 0)) hx hb dX5_corners_24 (by decide) ?_
      exact kEi hx hb hr hlocks hP hK hD hS dX5_corners_25 rfl
  · replace c6 := bI_n c6; replace c6 := of_decide_eq_true c6
    exact absurd c6 hbad

set_option maxHeartbeats 4000000 in
set_option maxRecDepth 100000 in
theorem tX5_corners_o (l : Launch) (dC : Nat → ClassId) (dI : Nat → Nat → Nat) (cJ cI cZ : ClassId) (om cd ns apx apy act nb asd amv asl apl asw nw aor nc aon atw aup alw nm : Nat) (mx my up lo rx ry : Int64) (fpx : Nat → Int64) (fpy : Nat → Int64) (ct : Nat → Nat) (od : Nat → Nat) (s_ : Nat) (hs : s_ < ns) (hn : ns ≤ 16) (hc : ct s_ ≤ 16) : MMi l yX5_corners wsX5_corners { frames := 4, cells := 0, slots := 0, locals := 119 } [.ref om, .int (nI s_)] (dC, dI) [(om, .inr (5, [.int (nI cd), .int (nI ns), .ref apx, .ref apy, .ref act, .int (nI nb), .ref asd, .ref amv, .ref asl, .ref apl, .ref asw, .int (nI nw), .ref aor, .int (nI nc), .ref aon, .ref atw, .long mx, .long my, .ref aup, .ref alw, .int (nI nm), .long up, .long lo, .long rx, .long ry])), (apx, .inl (cJ, 256, .inr (.inl fpx))), (apy, .inl (cJ, 256, .inr (.inl fpy))), (act, .inl (cI, 16, .inl (nF ct))), (aor, .inl (cI, 16, .inl (nF od)))] [(om, .inr (5, [.int (nI 0), .int (nI ns), .ref apx, .ref apy, .ref act, .int (nI nb), .ref asd, .ref amv, .ref asl, .ref apl, .ref asw, .int (nI nw), .ref aor, .int (nI ((mC1 fpx fpy (16 * s_) (16 * s_ + ct s_) od (ct s_)).2)), .ref aon, .ref atw, .long mx, .long my, .ref aup, .ref alw, .int (nI nm), .long up, .long lo, .long rx, .long ry])), (apx, .inl (cJ, 256, .inr (.inl fpx))), (apy, .inl (cJ, 256, .inr (.inl fpy))), (act, .inl (cI, 16, .inl (nF ct))), (aor, .inl (cI, 16, .inl (nF (mC3 fpx fpy (mC2 fpx fpy (mC1 fpx fpy (16 * s_) (16 * s_ + ct s_) od (ct s_)).1 ((mC1 fpx fpy (16 * s_) (16 * s_ + ct s_) od (ct s_)).2 - 1)) ((mC1 fpx fpy (16 * s_) (16 * s_ + ct s_) od (ct s_)).2 - 1)))))] [(cJ, .long), (cI, .int), (cZ, .boolean)] (nI (mC1 fpx fpy (16 * s_) (16 * s_ + ct s_) od (ct s_)).2) := by
  intro sz
  refine kOf (cc := cX5_corners) (maxL := 2) (ret := (some .int)) (by decide) rfl (Nat.le_of_ble_eq_true rfl) ?_
  intro p e s m below meth c hx hb hr hml hts hown hlocks hB ls hl
  obtain ⟨hsz, hP, hK, hD0⟩ := hB
  subst hsz
  have hD := hD0.self (sz := s.heap.size)
  generalize hAe : va_A [(om, .inr (5, [.int (nI cd), .int (nI ns), .ref apx, .ref apy, .ref act, .int (nI nb), .ref asd, .ref amv, .ref asl, .ref apl, .ref asw, .int (nI nw), .ref aor, .int (nI nc), .ref aon, .ref atw, .long mx, .long my, .ref aup, .ref alw, .int (nI nm), .long up, .long lo, .long rx, .long ry])), (apx, .inl (cJ, 256, .inr (.inl fpx))), (apy, .inl (cJ, 256, .inr (.inl fpy))), (act, .inl (cI, 16, .inl (nF ct))), (aor, .inl (cI, 16, .inl (nF od)))] s.heap.size = A at hD ⊢
  have hA : ∀ q : Nat, s.heap.size ≤ q → A q := fun q h => by rw [← hAe]; exact Or.inr h
  have hS : va_S A s.heap s.heap [] := va_S.rf
  have hl : lv_has ls 2 [(0, .ref om), (1, .int (nI s_))] := hl
  have hi5 : ∀ w ∈ u_ws RX5 TX5 25, w ∈ wsX5_corners := by decide +kernel
  have f54 := hts (.fieldLink RX5 54 "SweptBoxesModel" "code" "I") (by decide +kernel)
  have f103 := hts (.fieldLink RX5 103 "SweptBoxesModel" "cornerCount" "I") (by decide +kernel)
  refine lv_aload_n hx hb dX5_corners_0 rfl (lv_at hl 0 rfl) ?_
  refine lv_aload_n hx hb dX5_corners_1 rfl (lv_at hl 0 rfl) ?_
  refine lv_iload_n hx hb dX5_corners_2 rfl (lv_at hl 1 rfl) ?_
  refine kpVi (q0 := 0) (ci := 5) (As := [.int (nI s_)]) (rest := [.ref om]) (WC := [(om, .inr (5, [.int (nI cd), .int (nI ns), .ref apx, .ref apy, .ref act, .int (nI nb), .ref asd, .ref amv, .ref asl, .ref apl, .ref asw, .int (nI nw), .ref aor, .int (nI nc), .ref aon, .ref atw, .long mx, .long my, .ref aup, .ref alw, .int (nI nm), .long up, .long lo, .long rx, .long ry]))]) (tyC := [(cJ, .long), (cI, .int), (cZ, .boolean)]) ⟨hx, hb, hml, hown, hts⟩ (tX5_isShape l dC dI cJ cI cZ om cd ns apx apy act nb asd amv asl apl asw nw aor nc aon atw aup alw nm mx my up lo rx ry (nI s_)) (cwV 1 hts gX5_corners_X5_isShape rfl rfl rfl (by decide +kernel) ⟨Nat.le_of_ble_eq_true rfl, Nat.le_of_ble_eq_true rfl⟩) (kPick (isC := [0]) hP rfl) (hK.sub [0, 1, 2] rfl) rfl rfl rfl rfl hl.1 (Nat.le_of_ble_eq_true rfl) dX5_corners_3 ⟨Nat.le_of_ble_eq_true rfl, Nat.le_of_ble_eq_true rfl⟩ ?_
  refine lv_if_eq (tgt := 13) hx hb dX5_corners_6 (by decide) (fun c6 => ?_) (fun c6 => ?_)
  · replace c6 := bI_0 c6; replace c6 := of_decide_eq_false c6
    exact absurd ⟨nI_pos' (by omega), nI_lt hs (by omega)⟩ c6
  · replace c6 := bI_n c6; replace c6 := of_decide_eq_true c6
    refine lv_iconst (v := (nI 0)) hx hb dX5_corners_9 (by decide) ?_
    refine lv_goto (tgt := 14) hx hb dX5_corners_10 (by decide) ?_
    refine va_put (D := (dC, dI)) (ci := 5) (v := .int (nI 0)) (ty := .int) (C := RX5) (T := TX5) (N := 25) hx hb hts hi5 tyX5 tyX5_ok nmX5 hown hK hP hD hS 0 rfl rfl 0 (by decide) f54 (fun _ h9 => h9) rfl (by decide +kernel) rfl rfl (Nat.le_of_ble_eq_true rfl) dX5_corners_14 (fun H locs hP hD hS => ?_)
    have hP : va_P (dC, dI) vwCl [(om, .inr (5, [.int (nI 0), .int (nI ns), .ref apx, .ref apy, .ref act, .int (nI nb), .ref asd, .ref amv, .ref asl, .ref apl, .ref asw, .int (nI nw), .ref aor, .int (nI nc), .ref aon, .ref atw, .long mx, .long my, .ref aup, .ref alw, .int (nI nm), .long up, .long lo, .long rx, .long ry])), (apx, .inl (cJ, 256, .inr (.inl fpx))), (apy, .inl (cJ, 256, .inr (.inl fpy))), (act, .inl (cI, 16, .inl (nF ct))), (aor, .inl (cI, 16, .inl (nF od)))] H := hP
    have hD : va_D A [(om, .inr (5, [.int (nI 0), .int (nI ns), .ref apx, .ref apy, .ref act, .int (nI nb), .ref asd, .ref amv, .ref asl, .ref apl, .ref asw, .int (nI nw), .ref aor, .int (nI nc), .ref aon, .ref atw, .long mx, .long my, .ref aup, .ref alw, .int (nI nm), .long up, .long lo, .long rx, .long ry])), (apx, .inl (cJ, 256, .inr (.inl fpx))), (apy, .inl (cJ, 256, .inr (.inl fpy))), (act, .inl (cI, 16, .inl (nF ct))), (aor, .inl (cI, 16, .inl (nF od)))] := hD
    refine lv_aload_n hx hb dX5_corners_17 rfl (lv_at hl 0 rfl) ?_
    refine va_get (D := (dC, dI)) (ci := 5) (v := .int (nI 0)) (C := RX5) (T := TX5) (N := 25) hx hb hts hi5 hown hK hP 0 rfl rfl 0 (by decide) f54 (fun _ h9 => h9) rfl dX5_corners_18 ?_
    refine lv_if_le (tgt := 26) hx hb dX5_corners_21 (by decide) (fun c21 => ?_) (fun c21 => ?_)
    · rw [← nI_0, nI_leI (by omega) (by omega)] at c21
      refine lv_aload_n hx hb dX5_corners_26 rfl (lv_at hl 0 rfl) ?_
      refine lv_iload_n hx hb dX5_corners_27 rfl (lv_at hl 1 rfl) ?_
      refine kmVv (q0 := 0) (ci := 5) (As := [.int (nI s_)]) (rest := []) (WC := [(om, .inr (5, [.int (nI 0), .int (nI ns), .ref apx, .ref apy, .ref act, .int (nI nb), .ref asd, .ref amv, .ref asl, .ref apl, .ref asw, .int (nI nw), .ref aor, .int (nI nc), .ref aon, .ref atw, .long mx, .long my, .ref aup, .ref alw, .int (nI nm), .long up, .long lo, .long rx, .long ry])), (apx, .inl (cJ, 256, .inr (.inl fpx))), (apy, .inl (cJ, 256, .inr (.inl fpy))), (act, .inl (cI, 16, .inl (nF ct))), (aor, .inl (cI, 16, .inl (nF od)))]) (W2 := [(om, .inr (5, [.int (nI 0), .int (nI ns), .ref apx, .ref apy, .ref act, .int (nI nb), .ref asd, .ref amv, .ref asl, .ref apl, .ref asw, .int (nI nw), .ref aor, .int (nI ((mC1 fpx fpy (16 * s_) (16 * s_ + ct s_) od (ct s_)).2)), .ref aon, .ref atw, .long mx, .long my, .ref aup, .ref alw, .int (nI nm), .long up, .long lo, .long rx, .long ry])), (apx, .inl (cJ, 256, .inr (.inl fpx))), (apy, .inl (cJ, 256, .inr (.inl fpy))), (act, .inl (cI, 16, .inl (nF ct))), (aor, .inl (cI, 16, .inl (nF (mC3 fpx fpy (mC2 fpx fpy (mC1 fpx fpy (16 * s_) (16 * s_ + ct s_) od (ct s_)).1 ((mC1 fpx fpy (16 * s_) (16 * s_ + ct s_) od (ct s_)).2 - 1)) ((mC1 fpx fpy (16 * s_) (16 * s_ + ct s_) od (ct s_)).2 - 1)))))]) (WR := []) (WN := [(om, .inr (5, [.int (nI 0), .int (nI ns), .ref apx, .ref apy, .ref act, .int (nI nb), .ref asd, .ref amv, .ref asl, .ref apl, .ref asw, .int (nI nw), .ref aor, .int (nI ((mC1 fpx fpy (16 * s_) (16 * s_ + ct s_) od (ct s_)).2)), .ref aon, .ref atw, .long mx, .long my, .ref aup, .ref alw, .int (nI nm), .long up, .long lo, .long rx, .long ry])), (apx, .inl (cJ, 256, .inr (.inl fpx))), (apy, .inl (cJ, 256, .inr (.inl fpy))), (act, .inl (cI, 16, .inl (nF ct))), (aor, .inl (cI, 16, .inl (nF (mC3 fpx fpy (mC2 fpx fpy (mC1 fpx fpy (16 * s_) (16 * s_ + ct s_) od (ct s_)).1 ((mC1 fpx fpy (16 * s_) (16 * s_ + ct s_) od (ct s_)).2 - 1)) ((mC1 fpx fpy (16 * s_) (16 * s_ + ct s_) od (ct s_)).2 - 1)))))]) (tyC := [(cJ, .long), (cI, .int), (cZ, .boolean)]) (isC := [0, 1, 2, 3, 4]) (isR := []) (isN := [0, 1, 2, 3, 4]) (its := [0, 1, 2]) ⟨hx, hb, hml, hown, hts⟩ (tX5_findCorners l dC dI cJ cI cZ om 0 ns apx apy act nb asd amv asl apl asw nw aor nc aon atw aup alw nm mx my up lo rx ry fpx fpy ct od s_ (by omega) (by omega)) (cwV 1 hts gX5_corners_X5_findCorners rfl rfl rfl (by decide +kernel) ⟨Nat.le_of_ble_eq_true rfl, Nat.le_of_ble_eq_true rfl⟩) hP hD hA hS hK rfl (by decide) rfl (by decide) (by decide) rfl (by decide) rfl rfl rfl rfl rfl hl.1 (Nat.le_of_ble_eq_true rfl) dX5_corners_28 ⟨Nat.le_of_ble_eq_true rfl, Nat.le_of_ble_eq_true rfl⟩ (fun H locs hP hD hS => ?_)
      refine lv_aload_n hx hb dX5_corners_31 rfl (lv_at hl 0 rfl) ?_
      refine va_get (D := (dC, dI)) (ci := 5) (v := .int (nI ((mC1 fpx fpy (16 * s_) (16 * s_ + ct s_) od (ct s_)).2))) (C := RX5) (T := TX5) (N := 25) hx hb hts hi5 hown hK hP 0 rfl rfl 13 (by decide) f103 (fun _ h9 => h9) rfl dX5_corners_32 ?_
      exact kEi hx hb hr hlocks hP hK hD hS dX5_corners_35 rfl
    · skip
      exact absurd c21 (by decide)

set_option maxHeartbeats 4000000 in
set_option maxRecDepth 100000 in
theorem tX5_corner_e1 (l : Launch) (dC : Nat → ClassId) (dI : Nat → Nat → Nat) (cJ cI cZ : ClassId) (om cd ns apx apy act nb asd amv asl apl asw nw aor nc aon atw aup alw nm : Nat) (mx my up lo rx ry : Int64) (fpx : Nat → Int64) (fpy : Nat → Int64) (ct : Nat → Nat) (od : Nat → Nat) (si sk sx : Int32) (hbad : ¬ ((0 ≤ si ∧ si < nI ns) ∧ (sx = 0 ∨ sx = nI 1))) : MMl l yX5_corner wsX5_corner { frames := 1, cells := 0, slots := 0, locals := 21 } [.ref om, .int si, .int sk, .int sx] (dC, dI) [(om, .inr (5, [.int (nI cd), .int (nI ns), .ref apx, .ref apy, .ref act, .int (nI nb), .ref asd, .ref amv, .ref asl, .ref apl, .ref asw, .int (nI nw), .ref aor, .int (nI nc), .ref aon, .ref atw, .long mx, .long my, .ref aup, .ref alw, .int (nI nm), .long up, .long lo, .long rx, .long ry])), (apx, .inl (cJ, 256, .inr (.inl fpx))), (apy, .inl (cJ, 256, .inr (.inl fpy))), (act, .inl (cI, 16, .inl (nF ct))), (aor, .inl (cI, 16, .inl (nF od)))] [(om, .inr (5, [.int (nI 1), .int (nI ns), .ref apx, .ref apy, .ref act, .int (nI nb), .ref asd, .ref amv, .ref asl, .ref apl, .ref asw, .int (nI nw), .ref aor, .int (nI nc), .ref aon, .ref atw, .long mx, .long my, .ref aup, .ref alw, .int (nI nm), .long up, .long lo, .long rx, .long ry])), (apx, .inl (cJ, 256, .inr (.inl fpx))), (apy, .inl (cJ, 256, .inr (.inl fpy))), (act, .inl (cI, 16, .inl (nF ct))), (aor, .inl (cI, 16, .inl (nF od)))] [(cJ, .long), (cI, .int), (cZ, .boolean)] (0) := by
  intro sz
  refine kOf (cc := cX5_corner) (maxL := 4) (ret := (some .long)) (by decide) rfl (Nat.le_of_ble_eq_true rfl) ?_
  intro p e s m below meth c hx hb hr hml hts hown hlocks hB ls hl
  obtain ⟨hsz, hP, hK, hD0⟩ := hB
  subst hsz
  have hD := hD0.self (sz := s.heap.size)
  generalize hAe : va_A [(om, .inr (5, [.int (nI cd), .int (nI ns), .ref apx, .ref apy, .ref act, .int (nI nb), .ref asd, .ref amv, .ref asl, .ref apl, .ref asw, .int (nI nw), .ref aor, .int (nI nc), .ref aon, .ref atw, .long mx, .long my, .ref aup, .ref alw, .int (nI nm), .long up, .long lo, .long rx, .long ry])), (apx, .inl (cJ, 256, .inr (.inl fpx))), (apy, .inl (cJ, 256, .inr (.inl fpy))), (act, .inl (cI, 16, .inl (nF ct))), (aor, .inl (cI, 16, .inl (nF od)))] s.heap.size = A at hD ⊢
  have hA : ∀ q : Nat, s.heap.size ≤ q → A q := fun q h => by rw [← hAe]; exact Or.inr h
  have hS : va_S A s.heap s.heap [] := va_S.rf
  have hl : lv_has ls 4 [(0, .ref om), (1, .int si), (2, .int sk), (3, .int sx)] := hl
  have hi5 : ∀ w ∈ u_ws RX5 TX5 25, w ∈ wsX5_corner := by decide +kernel
  have f54 := hts (.fieldLink RX5 54 "SweptBoxesModel" "code" "I") (by decide +kernel)
  refine lv_aload_n hx hb dX5_corner_0 rfl (lv_at hl 0 rfl) ?_
  refine lv_aload_n hx hb dX5_corner_1 rfl (lv_at hl 0 rfl) ?_
  refine lv_iload_n hx hb dX5_corner_2 rfl (lv_at hl 1 rfl) ?_
  refine kpVi (q0 := 0) (ci := 5) (As := [.int si]) (rest := [.ref om]) (WC := [(om, .inr (5, [.int (nI cd), .int (nI ns), .ref apx, .ref apy, .ref act, .int (nI nb), .ref asd, .ref amv, .ref asl, .ref apl, .ref asw, .int (nI nw), .ref aor, .int (nI nc), .ref aon, .ref atw, .long mx, .long my, .ref aup, .ref alw, .int (nI nm), .long up, .long lo, .long rx, .long ry]))]) (tyC := [(cJ, .long), (cI, .int), (cZ, .boolean)]) ⟨hx, hb, hml, hown, hts⟩ (tX5_isShape l dC dI cJ cI cZ om cd ns apx apy act nb asd amv asl apl asw nw aor nc aon atw aup alw nm mx my up lo rx ry si) (cwV 1 hts gX5_corner_X5_isShape rfl rfl rfl (by decide +kernel) ⟨Nat.le_of_ble_eq_true rfl, Nat.le_of_ble_eq_true rfl⟩) (kPick (isC := [0]) hP rfl) (hK.sub [0, 1, 2] rfl) rfl rfl rfl rfl hl.1 (Nat.le_of_ble_eq_true rfl) dX5_corner_3 ⟨Nat.le_of_ble_eq_true rfl, Nat.le_of_ble_eq_true rfl⟩ ?_
  refine lv_if_eq (tgt := 22) hx hb dX5_corner_6 (by decide) (fun c6 => ?_) (fun c6 => ?_)
  · replace c6 := bI_0 c6; replace c6 := of_decide_eq_false c6
    refine lv_iconst (v := (nI 1)) hx hb dX5_corner_22 (by decide) ?_
    refine va_put (D := (dC, dI)) (ci := 5) (v := .int (nI 1)) (ty := .int) (C := RX5) (T := TX5) (N := 25) hx hb hts hi5 tyX5 tyX5_ok nmX5 hown hK hP hD hS 0 rfl rfl 0 (by decide) f54 (fun _ h9 => h9) rfl (by decide +kernel) rfl rfl (Nat.le_of_ble_eq_true rfl) dX5_corner_23 (fun H locs hP hD hS => ?_)
    have hP : va_P (dC, dI) vwCl [(om, .inr (5, [.int (nI 1), .int (nI ns), .ref apx, .ref apy, .ref act, .int (nI nb), .ref asd, .ref amv, .ref asl, .ref apl, .ref asw, .int (nI nw), .ref aor, .int (nI nc), .ref aon, .ref atw, .long mx, .long my, .ref aup, .ref alw, .int (nI nm), .long up, .long lo, .long rx, .long ry])), (apx, .inl (cJ, 256, .inr (.inl fpx))), (apy, .inl (cJ, 256, .inr (.inl fpy))), (act, .inl (cI, 16, .inl (nF ct))), (aor, .inl (cI, 16, .inl (nF od)))] H := hP
    have hD : va_D A [(om, .inr (5, [.int (nI 1), .int (nI ns), .ref apx, .ref apy, .ref act, .int (nI nb), .ref asd, .ref amv, .ref asl, .ref apl, .ref asw, .int (nI nw), .ref aor, .int (nI nc), .ref aon, .ref atw, .long mx, .long my, .ref aup, .ref alw, .int (nI nm), .long up, .long lo, .long rx, .long ry])), (apx, .inl (cJ, 256, .inr (.inl fpx))), (apy, .inl (cJ, 256, .inr (.inl fpy))), (act, .inl (cI, 16, .inl (nF ct))), (aor, .inl (cI, 16, .inl (nF od)))] := hD
    refine lv_aload_n hx hb dX5_corner_26 rfl (lv_at hl 0 rfl) ?_
    refine va_get (D := (dC, dI)) (ci := 5) (v := .int (nI 1)) (C := RX5) (T := TX5) (N := 25) hx hb hts hi5 hown hK hP 0 rfl rfl 0 (by decide) f54 (fun _ h9 => h9) rfl dX5_corner_27 ?_
    refine lv_if_ne (tgt := 59) hx hb dX5_corner_30 (by decide) (fun c30 => ?_) (fun c30 => ?_)
    · rw [← nI_0, nI_eq (by omega) (by omega)] at c30
      refine lv_aload_n hx hb dX5_corner_59 rfl (lv_at hl 0 rfl) ?_
      refine va_get (D := (dC, dI)) (ci := 5) (v := .int (nI 1)) (C := RX5) (T := TX5) (N := 25) hx hb hts hi5 hown hK hP 0 rfl rfl 0 (by decide) f54 (fun _ h9 => h9) rfl dX5_corner_60 ?_
      refine lv_if_le (tgt := 70) hx hb dX5_corner_63 (by decide) (fun c63 => ?_) (fun c63 => ?_)
      · skip
        exact absurd c63 (by decide)
      · rw [← nI_0, nI_leI (by omega) (by omega), Nat.not_le] at c63
        refine lv_lconst (v := 0) hx hb dX5_corner_66 (by decide) ?_
        refine lv_goto (tgt := 99) hx hb dX5_corner_67 (by decide) ?_
        exact kEl hx hb hr hlocks hP hK hD hS dX5_corner_99 rfl
    · skip
      exact absurd c30 (by decide)
  · replace c6 := bI_n c6; replace c6 := of_decide_eq_true c6
    refine lv_iload_n hx hb dX5_corner_9 rfl (lv_at hl 3 rfl) ?_
    refine lv_if_eq (tgt := 18) hx hb dX5_corner_10 (by decide) (fun c10 => ?_) (fun c10 => ?_)
    · skip
      exact absurd ⟨c6, Or.inl c10⟩ hbad
    · skip
      refine lv_iload_n hx hb dX5_corner_13 rfl (lv_at hl 3 rfl) ?_
      refine lv_iconst (v := (nI 1)) hx hb dX5_corner_14 (by decide) ?_
      refine lv_icmp_ne (tgt := 22) hx hb dX5_corner_15 (by decide) (fun c15 => ?_) (fun c15 => ?_)
      · skip
        refine lv_iconst (v := (nI 1)) hx hb dX5_corner_22 (by decide) ?_
        refine va_put (D := (dC, dI)) (ci := 5) (v := .int (nI 1)) (ty := .int) (C := RX5) (T := TX5) (N := 25) hx hb hts hi5 tyX5 tyX5_ok nmX5 hown hK hP hD hS 0 rfl rfl 0 (by decide) f54 (fun _ h9 => h9) rfl (by decide +kernel) rfl rfl (Nat.le_of_ble_eq_true rfl) dX5_corner_23 (fun H locs hP hD hS => ?_)
        have hP : va_P (dC, dI) vwCl [(om, .inr (5, [.int (nI 1), .int (nI ns), .ref apx, .ref apy, .ref act, .int (nI nb), .ref asd, .ref amv, .ref asl, .ref apl, .ref asw, .int (nI nw), .ref aor, .int (nI nc), .ref aon, .ref atw, .long mx, .long my, .ref aup, .ref alw, .int (nI nm), .long up, .long lo, .long rx, .long ry])), (apx, .inl (cJ, 256, .inr (.inl fpx))), (apy, .inl (cJ, 256, .inr (.inl fpy))), (act, .inl (cI, 16, .inl (nF ct))), (aor, .inl (cI, 16, .inl (nF od)))] H := hP
        have hD : va_D A [(om, .inr (5, [.int (nI 1), .int (nI ns), .ref apx, .ref apy, .ref act, .int (nI nb), .ref asd, .ref amv, .ref asl, .ref apl, .ref asw, .int (nI nw), .ref aor, .int (nI nc), .ref aon, .ref atw, .long mx, .long my, .ref aup, .ref alw, .int (nI nm), .long up, .long lo, .long rx, .long ry])), (apx, .inl (cJ, 256, .inr (.inl fpx))), (apy, .inl (cJ, 256, .inr (.inl fpy))), (act, .inl (cI, 16, .inl (nF ct))), (aor, .inl (cI, 16, .inl (nF od)))] := hD
        refine lv_aload_n hx hb dX5_corner_26 rfl (lv_at hl 0 rfl) ?_
        refine va_get (D := (dC, dI)) (ci := 5) (v := .int (nI 1)) (C := RX5) (T := TX5) (N := 25) hx hb hts hi5 hown hK hP 0 rfl rfl 0 (by decide) f54 (fun _ h9 => h9) rfl dX5_corner_27 ?_
        refine lv_if_ne (tgt := 59) hx hb dX5_corner_30 (by decide) (fun c30 => ?_) (fun c30 => ?_)
        · rw [← nI_0, nI_eq (by omega) (by omega)] at c30
          refine lv_aload_n hx hb dX5_corner_59 rfl (lv_at hl 0 rfl) ?_
          refine va_get (D := (dC, dI)) (ci := 5) (v := .int (nI 1)) (C := RX5) (T := TX5) (N := 25) hx hb hts hi5 hown hK hP 0 rfl rfl 0 (by decide) f54 (fun _ h9 => h9) rfl dX5_corner_60 ?_
          refine lv_if_le (tgt := 70) hx hb dX5_corner_63 (by decide) (fun c63 => ?_) (fun c63 => ?_)
          · skip
            exact absurd c63 (by decide)
          · rw [← nI_0, nI_leI (by omega) (by omega), Nat.not_le] at c63
            refine lv_lconst (v := 0) hx hb dX5_corner_66 (by decide) ?_
            refine lv_goto (tgt := 99) hx hb dX5_corner_67 (by decide) ?_
            exact kEl hx hb hr hlocks hP hK hD hS dX5_corner_99 rfl
        · skip
          exact absurd c30 (by decide)
      · skip
        exact absurd ⟨c6, Or.inr c15⟩ hbad

set_option maxHeartbeats 4000000 in
set_option maxRecDepth 100000 in
theorem tX5_corner_e20 (l : Launch) (dC : Nat → ClassId) (dI : Nat → Nat → Nat) (cJ cI cZ : ClassId) (om cd ns apx apy act nb asd amv asl apl asw nw aor nc aon atw aup alw nm : Nat) (mx my up lo rx ry : Int64) (fpx : Nat → Int64) (fpy : Nat → Int64) (ct : Nat → Nat) (od : Nat → Nat) (s_ : Nat) (sk : Int32) (hs : s_ < ns) (hn : ns ≤ 16) (hc : ct s_ ≤ 16) (hbad : ¬ (0 ≤ sk ∧ sk < nI (mC1 fpx fpy (16 * s_) (16 * s_ + ct s_) od (ct s_)).2)) : MMl l yX5_corner wsX5_corner { frames := 4, cells := 0, slots := 0, locals := 119 } [.ref om, .int (nI s_), .int sk, .int (nI 0)] (dC, dI) [(om, .inr (5, [.int (nI cd), .int (nI ns), .ref apx, .ref apy, .ref act, .int (nI nb), .ref asd, .ref amv, .ref asl, .ref apl, .ref asw, .int (nI nw), .ref aor, .int (nI nc), .ref aon, .ref atw, .long mx, .long my, .ref aup, .ref alw, .int (nI nm), .long up, .long lo, .long rx, .long ry])), (apx, .inl (cJ, 256, .inr (.inl fpx))), (apy, .inl (cJ, 256, .inr (.inl fpy))), (act, .inl (cI, 16, .inl (nF ct))), (aor, .inl (cI, 16, .inl (nF od)))] [(om, .inr (5, [.int (nI 1), .int (nI ns), .ref apx, .ref apy, .ref act, .int (nI nb), .ref asd, .ref amv, .ref asl, .ref apl, .ref asw, .int (nI nw), .ref aor, .int (nI ((mC1 fpx fpy (16 * s_) (16 * s_ + ct s_) od (ct s_)).2)), .ref aon, .ref atw, .long mx, .long my, .ref aup, .ref alw, .int (nI nm), .long up, .long lo, .long rx, .long ry])), (apx, .inl (cJ, 256, .inr (.inl fpx))), (apy, .inl (cJ, 256, .inr (.inl fpy))), (act, .inl (cI, 16, .inl (nF ct))), (aor, .inl (cI, 16, .inl (nF (mC3 fpx fpy (mC2 fpx fpy (mC1 fpx fpy (16 * s_) (16 * s_ + ct s_) od (ct s_)).1 ((mC1 fpx fpy (16 * s_) (16 * s_ + ct s_) od (ct s_)).2 - 1)) ((mC1 fpx fpy (16 * s_) (16 * s_ + ct s_) od (ct s_)).2 - 1)))))] [(cJ, .long), (cI, .int), (cZ, .boolean)] (0) := by
  intro sz
  refine kOf (cc := cX5_corner) (maxL := 4) (ret := (some .long)) (by decide) rfl (Nat.le_of_ble_eq_true rfl) ?_
  intro p e s m below meth c hx hb hr hml hts hown hlocks hB ls hl
  obtain ⟨hsz, hP, hK, hD0⟩ := hB
  subst hsz
  have hD := hD0.self (sz := s.heap.size)
  generalize hAe : va_A [(om, .inr (5, [.int (nI cd), .int (nI ns), .ref apx, .ref apy, .ref act, .int (nI nb), .ref asd, .ref amv, .ref asl, .ref apl, .ref asw, .int (nI nw), .ref aor, .int (nI nc), .ref aon, .ref atw, .long mx, .long my, .ref aup, .ref alw, .int (nI nm), .long up, .long lo, .long rx, .long ry])), (apx, .inl (cJ, 256, .inr (.inl fpx))), (apy, .inl (cJ, 256, .inr (.inl fpy))), (act, .inl (cI, 16, .inl (nF ct))), (aor, .inl (cI, 16, .inl (nF od)))] s.heap.size = A at hD ⊢
  have hA : ∀ q : Nat, s.heap.size ≤ q → A q := fun q h => by rw [← hAe]; exact Or.inr h
  have hS : va_S A s.heap s.heap [] := va_S.rf
  have hl : lv_has ls 4 [(0, .ref om), (1, .int (nI s_)), (2, .int sk), (3, .int (nI 0))] := hl
  have hi5 : ∀ w ∈ u_ws RX5 TX5 25, w ∈ wsX5_corner := by decide +kernel
  have f54 := hts (.fieldLink RX5 54 "SweptBoxesModel" "code" "I") (by decide +kernel)
  have f103 := hts (.fieldLink RX5 103 "SweptBoxesModel" "cornerCount" "I") (by decide +kernel)
  refine lv_aload_n hx hb dX5_corner_0 rfl (lv_at hl 0 rfl) ?_
  refine lv_aload_n hx hb dX5_corner_1 rfl (lv_at hl 0 rfl) ?_
  refine lv_iload_n hx hb dX5_corner_2 rfl (lv_at hl 1 rfl) ?_
  refine kpVi (q0 := 0) (ci := 5) (As := [.int (nI s_)]) (rest := [.ref om]) (WC := [(om, .inr (5, [.int (nI cd), .int (nI ns), .ref apx, .ref apy, .ref act, .int (nI nb), .ref asd, .ref amv, .ref asl, .ref apl, .ref asw, .int (nI nw), .ref aor, .int (nI nc), .ref aon, .ref atw, .long mx, .long my, .ref aup, .ref alw, .int (nI nm), .long up, .long lo, .long rx, .long ry]))]) (tyC := [(cJ, .long), (cI, .int), (cZ, .boolean)]) ⟨hx, hb, hml, hown, hts⟩ (tX5_isShape l dC dI cJ cI cZ om cd ns apx apy act nb asd amv asl apl asw nw aor nc aon atw aup alw nm mx my up lo rx ry (nI s_)) (cwV 1 hts gX5_corner_X5_isShape rfl rfl rfl (by decide +kernel) ⟨Nat.le_of_ble_eq_true rfl, Nat.le_of_ble_eq_true rfl⟩) (kPick (isC := [0]) hP rfl) (hK.sub [0, 1, 2] rfl) rfl rfl rfl rfl hl.1 (Nat.le_of_ble_eq_true rfl) dX5_corner_3 ⟨Nat.le_of_ble_eq_true rfl, Nat.le_of_ble_eq_true rfl⟩ ?_
  refine lv_if_eq (tgt := 22) hx hb dX5_corner_6 (by decide) (fun c6 => ?_) (fun c6 => ?_)
  · replace c6 := bI_0 c6; replace c6 := of_decide_eq_false c6
    exact absurd ⟨nI_pos' (by omega), nI_lt hs (by omega)⟩ c6
  · replace c6 := bI_n c6; replace c6 := of_decide_eq_true c6
    refine lv_iload_n hx hb dX5_corner_9 rfl (lv_at hl 3 rfl) ?_
    refine lv_if_eq (tgt := 18) hx hb dX5_corner_10 (by decide) (fun c10 => ?_) (fun c10 => ?_)
    · rw [← nI_0, nI_eq (by omega) (by omega)] at c10
      refine lv_iconst (v := (nI 0)) hx hb dX5_corner_18 (by decide) ?_
      refine lv_goto (tgt := 23) hx hb dX5_corner_19 (by decide) ?_
      refine va_put (D := (dC, dI)) (ci := 5) (v := .int (nI 0)) (ty := .int) (C := RX5) (T := TX5) (N := 25) hx hb hts hi5 tyX5 tyX5_ok nmX5 hown hK hP hD hS 0 rfl rfl 0 (by decide) f54 (fun _ h9 => h9) rfl (by decide +kernel) rfl rfl (Nat.le_of_ble_eq_true rfl) dX5_corner_23 (fun H locs hP hD hS => ?_)
      have hP : va_P (dC, dI) vwCl [(om, .inr (5, [.int (nI 0), .int (nI ns), .ref apx, .ref apy, .ref act, .int (nI nb), .ref asd, .ref amv, .ref asl, .ref apl, .ref asw, .int (nI nw), .ref aor, .int (nI nc), .ref aon, .ref atw, .long mx, .long my, .ref aup, .ref alw, .int (nI nm), .long up, .long lo, .long rx, .long ry])), (apx, .inl (cJ, 256, .inr (.inl fpx))), (apy, .inl (cJ, 256, .inr (.inl fpy))), (act, .inl (cI, 16, .inl (nF ct))), (aor, .inl (cI, 16, .inl (nF od)))] H := hP
      have hD : va_D A [(om, .inr (5, [.int (nI 0), .int (nI ns), .ref apx, .ref apy, .ref act, .int (nI nb), .ref asd, .ref amv, .ref asl, .ref apl, .ref asw, .int (nI nw), .ref aor, .int (nI nc), .ref aon, .ref atw, .long mx, .long my, .ref aup, .ref alw, .int (nI nm), .long up, .long lo, .long rx, .long ry])), (apx, .inl (cJ, 256, .inr (.inl fpx))), (apy, .inl (cJ, 256, .inr (.inl fpy))), (act, .inl (cI, 16, .inl (nF ct))), (aor, .inl (cI, 16, .inl (nF od)))] := hD
      refine lv_aload_n hx hb dX5_corner_26 rfl (lv_at hl 0 rfl) ?_
      refine va_get (D := (dC, dI)) (ci := 5) (v := .int (nI 0)) (C := RX5) (T := TX5) (N := 25) hx hb hts hi5 hown hK hP 0 rfl rfl 0 (by decide) f54 (fun _ h9 => h9) rfl dX5_corner_27 ?_
      refine lv_if_ne (tgt := 59) hx hb dX5_corner_30 (by decide) (fun c30 => ?_) (fun c30 => ?_)
      · skip
        exact absurd c30 (by decide)
      · rw [← nI_0, nI_eq (by omega) (by omega)] at c30
        refine lv_aload_n hx hb dX5_corner_33 rfl (lv_at hl 0 rfl) ?_
        refine lv_iload_n hx hb dX5_corner_34 rfl (lv_at hl 1 rfl) ?_
        refine kmVv (q0 := 0) (ci := 5) (As := [.int (nI s_)]) (rest := []) (WC := [(om, .inr (5, [.int (nI 0), .int (nI ns), .ref apx, .ref apy, .ref act, .int (nI nb), .ref asd, .ref amv, .ref asl, .ref apl, .ref asw, .int (nI nw), .ref aor, .int (nI nc), .ref aon, .ref atw, .long mx, .long my, .ref aup, .ref alw, .int (nI nm), .long up, .long lo, .long rx, .long ry])), (apx, .inl (cJ, 256, .inr (.inl fpx))), (apy, .inl (cJ, 256, .inr (.inl fpy))), (act, .inl (cI, 16, .inl (nF ct))), (aor, .inl (cI, 16, .inl (nF od)))]) (W2 := [(om, .inr (5, [.int (nI 0), .int (nI ns), .ref apx, .ref apy, .ref act, .int (nI nb), .ref asd, .ref amv, .ref asl, .ref apl, .ref asw, .int (nI nw), .ref aor, .int (nI ((mC1 fpx fpy (16 * s_) (16 * s_ + ct s_) od (ct s_)).2)), .ref aon, .ref atw, .long mx, .long my, .ref aup, .ref alw, .int (nI nm), .long up, .long lo, .long rx, .long ry])), (apx, .inl (cJ, 256, .inr (.inl fpx))), (apy, .inl (cJ, 256, .inr (.inl fpy))), (act, .inl (cI, 16, .inl (nF ct))), (aor, .inl (cI, 16, .inl (nF (mC3 fpx fpy (mC2 fpx fpy (mC1 fpx fpy (16 * s_) (16 * s_ + ct s_) od (ct s_)).1 ((mC1 fpx fpy (16 * s_) (16 * s_ + ct s_) od (ct s_)).2 - 1)) ((mC1 fpx fpy (16 * s_) (16 * s_ + ct s_) od (ct s_)).2 - 1)))))]) (WR := []) (WN := [(om, .inr (5, [.int (nI 0), .int (nI ns), .ref apx, .ref apy, .ref act, .int (nI nb), .ref asd, .ref amv, .ref asl, .ref apl, .ref asw, .int (nI nw), .ref aor, .int (nI ((mC1 fpx fpy (16 * s_) (16 * s_ + ct s_) od (ct s_)).2)), .ref aon, .ref atw, .long mx, .long my, .ref aup, .ref alw, .int (nI nm), .long up, .long lo, .long rx, .long ry])), (apx, .inl (cJ, 256, .inr (.inl fpx))), (apy, .inl (cJ, 256, .inr (.inl fpy))), (act, .inl (cI, 16, .inl (nF ct))), (aor, .inl (cI, 16, .inl (nF (mC3 fpx fpy (mC2 fpx fpy (mC1 fpx fpy (16 * s_) (16 * s_ + ct s_) od (ct s_)).1 ((mC1 fpx fpy (16 * s_) (16 * s_ + ct s_) od (ct s_)).2 - 1)) ((mC1 fpx fpy (16 * s_) (16 * s_ + ct s_) od (ct s_)).2 - 1)))))]) (tyC := [(cJ, .long), (cI, .int), (cZ, .boolean)]) (isC := [0, 1, 2, 3, 4]) (isR := []) (isN := [0, 1, 2, 3, 4]) (its := [0, 1, 2]) ⟨hx, hb, hml, hown, hts⟩ (tX5_findCorners l dC dI cJ cI cZ om 0 ns apx apy act nb asd amv asl apl asw nw aor nc aon atw aup alw nm mx my up lo rx ry fpx fpy ct od s_ (by omega) (by omega)) (cwV 1 hts gX5_corner_X5_findCorners rfl rfl rfl (by decide +kernel) ⟨Nat.le_of_ble_eq_true rfl, Nat.le_of_ble_eq_true rfl⟩) hP hD hA hS hK rfl (by decide) rfl (by decide) (by decide) rfl (by decide) rfl rfl rfl rfl rfl hl.1 (Nat.le_of_ble_eq_true rfl) dX5_corner_35 ⟨Nat.le_of_ble_eq_true rfl, Nat.le_of_ble_eq_true rfl⟩ (fun H locs hP hD hS => ?_)
        refine lv_aload_n hx hb dX5_corner_38 rfl (lv_at hl 0 rfl) ?_
        refine lv_iload_n hx hb dX5_corner_39 rfl (lv_at hl 2 rfl) ?_
        refine lv_if_lt (tgt := 51) hx hb dX5_corner_40 (by decide) (fun c40 => ?_) (fun c40 => ?_)
        · skip
          refine lv_iconst (v := (nI 1)) hx hb dX5_corner_51 (by decide) ?_
          refine lv_goto (tgt := 56) hx hb dX5_corner_52 (by decide) ?_
          refine va_put (D := (dC, dI)) (ci := 5) (v := .int (nI 1)) (ty := .int) (C := RX5) (T := TX5) (N := 25) hx hb hts hi5 tyX5 tyX5_ok nmX5 hown hK hP hD hS 0 rfl rfl 0 (by decide) f54 (fun _ h9 => h9) rfl (by decide +kernel) rfl rfl (Nat.le_of_ble_eq_true rfl) dX5_corner_56 (fun H locs hP hD hS => ?_)
          have hP : va_P (dC, dI) vwCl [(om, .inr (5, [.int (nI 1), .int (nI ns), .ref apx, .ref apy, .ref act, .int (nI nb), .ref asd, .ref amv, .ref asl, .ref apl, .ref asw, .int (nI nw), .ref aor, .int (nI ((mC1 fpx fpy (16 * s_) (16 * s_ + ct s_) od (ct s_)).2)), .ref aon, .ref atw, .long mx, .long my, .ref aup, .ref alw, .int (nI nm), .long up, .long lo, .long rx, .long ry])), (apx, .inl (cJ, 256, .inr (.inl fpx))), (apy, .inl (cJ, 256, .inr (.inl fpy))), (act, .inl (cI, 16, .inl (nF ct))), (aor, .inl (cI, 16, .inl (nF (mC3 fpx fpy (mC2 fpx fpy (mC1 fpx fpy (16 * s_) (16 * s_ + ct s_) od (ct s_)).1 ((mC1 fpx fpy (16 * s_) (16 * s_ + ct s_) od (ct s_)).2 - 1)) ((mC1 fpx fpy (16 * s_) (16 * s_ + ct s_) od (ct s_)).2 - 1)))))] H := hP
          have hD : va_D A [(om, .inr (5, [.int (nI 1), .int (nI ns), .ref apx, .ref apy, .ref act, .int (nI nb), .ref asd, .ref amv, .ref asl, .ref apl, .ref asw, .int (nI nw), .ref aor, .int (nI ((mC1 fpx fpy (16 * s_) (16 * s_ + ct s_) od (ct s_)).2)), .ref aon, .ref atw, .long mx, .long my, .ref aup, .ref alw, .int (nI nm), .long up, .long lo, .long rx, .long ry])), (apx, .inl (cJ, 256, .inr (.inl fpx))), (apy, .inl (cJ, 256, .inr (.inl fpy))), (act, .inl (cI, 16, .inl (nF ct))), (aor, .inl (cI, 16, .inl (nF (mC3 fpx fpy (mC2 fpx fpy (mC1 fpx fpy (16 * s_) (16 * s_ + ct s_) od (ct s_)).1 ((mC1 fpx fpy (16 * s_) (16 * s_ + ct s_) od (ct s_)).2 - 1)) ((mC1 fpx fpy (16 * s_) (16 * s_ + ct s_) od (ct s_)).2 - 1)))))] := hD
          refine lv_aload_n hx hb dX5_corner_59 rfl (lv_at hl 0 rfl) ?_
          refine va_get (D := (dC, dI)) (ci := 5) (v := .int (nI 1)) (C := RX5) (T := TX5) (N := 25) hx hb hts hi5 hown hK hP 0 rfl rfl 0 (by decide) f54 (fun _ h9 => h9) rfl dX5_corner_60 ?_
          refine lv_if_le (tgt := 70) hx hb dX5_corner_63 (by decide) (fun c63 => ?_) (fun c63 => ?_)
          · skip
            exact absurd c63 (by decide)
          · rw [← nI_0, nI_leI (by omega) (by omega), Nat.not_le] at c63
            refine lv_lconst (v := 0) hx hb dX5_corner_66 (by decide) ?_
            refine lv_goto (tgt := 99) hx hb dX5_corner_67 (by decide) ?_
            exact kEl hx hb hr hlocks hP hK hD hS dX5_corner_99 rfl
        · skip
          refine lv_iload_n hx hb dX5_corner_43 rfl (lv_at hl 2 rfl) ?_
          refine lv_aload_n hx hb dX5_corner_44 rfl (lv_at hl 0 rfl) ?_
          refine va_get (D := (dC, dI)) (ci := 5) (v := .int (nI ((mC1 fpx fpy (16 * s_) (16 * s_ + ct s_) od (ct s_)).2))) (C := RX5) (T := TX5) (N := 25) hx hb hts hi5 hown hK hP 0 rfl rfl 13 (by decide) f103 (fun _ h9 => h9) rfl dX5_corner_45 ?_
          refine lv_icmp_lt (tgt := 55) hx hb dX5_corner_48 (by decide) (fun c48 => ?_) (fun c48 => ?_)
          · skip
            exact absurd ⟨Int32.not_lt.mp c40, c48⟩ hbad
          · skip
            refine lv_iconst (v := (nI 1)) hx hb dX5_corner_51 (by decide) ?_
            refine lv_goto (tgt := 56) hx hb dX5_corner_52 (by decide) ?_
            refine va_put (D := (dC, dI)) (ci := 5) (v := .int (nI 1)) (ty := .int) (C := RX5) (T := TX5) (N := 25) hx hb hts hi5 tyX5 tyX5_ok nmX5 hown hK hP hD hS 0 rfl rfl 0 (by decide) f54 (fun _ h9 => h9) rfl (by decide +kernel) rfl rfl (Nat.le_of_ble_eq_true rfl) dX5_corner_56 (fun H locs hP hD hS => ?_)
            have hP : va_P (dC, dI) vwCl [(om, .inr (5, [.int (nI 1), .int (nI ns), .ref apx, .ref apy, .ref act, .int (nI nb), .ref asd, .ref amv, .ref asl, .ref apl, .ref asw, .int (nI nw), .ref aor, .int (nI ((mC1 fpx fpy (16 * s_) (16 * s_ + ct s_) od (ct s_)).2)), .ref aon, .ref atw, .long mx, .long my, .ref aup, .ref alw, .int (nI nm), .long up, .long lo, .long rx, .long ry])), (apx, .inl (cJ, 256, .inr (.inl fpx))), (apy, .inl (cJ, 256, .inr (.inl fpy))), (act, .inl (cI, 16, .inl (nF ct))), (aor, .inl (cI, 16, .inl (nF (mC3 fpx fpy (mC2 fpx fpy (mC1 fpx fpy (16 * s_) (16 * s_ + ct s_) od (ct s_)).1 ((mC1 fpx fpy (16 * s_) (16 * s_ + ct s_) od (ct s_)).2 - 1)) ((mC1 fpx fpy (16 * s_) (16 * s_ + ct s_) od (ct s_)).2 - 1)))))] H := hP
            have hD : va_D A [(om, .inr (5, [.int (nI 1), .int (nI ns), .ref apx, .ref apy, .ref act, .int (nI nb), .ref asd, .ref amv, .ref asl, .ref apl, .ref asw, .int (nI nw), .ref aor, .int (nI ((mC1 fpx fpy (16 * s_) (16 * s_ + ct s_) od (ct s_)).2)), .ref aon, .ref atw, .long mx, .long my, .ref aup, .ref alw, .int (nI nm), .long up, .long lo, .long rx, .long ry])), (apx, .inl (cJ, 256, .inr (.inl fpx))), (apy, .inl (cJ, 256, .inr (.inl fpy))), (act, .inl (cI, 16, .inl (nF ct))), (aor, .inl (cI, 16, .inl (nF (mC3 fpx fpy (mC2 fpx fpy (mC1 fpx fpy (16 * s_) (16 * s_ + ct s_) od (ct s_)).1 ((mC1 fpx fpy (16 * s_) (16 * s_ + ct s_) od (ct s_)).2 - 1)) ((mC1 fpx fpy (16 * s_) (16 * s_ + ct s_) od (ct s_)).2 - 1)))))] := hD
            refine lv_aload_n hx hb dX5_corner_59 rfl (lv_at hl 0 rfl) ?_
            refine va_get (D := (dC, dI)) (ci := 5) (v := .int (nI 1)) (C := RX5) (T := TX5) (N := 25) hx hb hts hi5 hown hK hP 0 rfl rfl 0 (by decide) f54 (fun _ h9 => h9) rfl dX5_corner_60 ?_
            refine lv_if_le (tgt := 70) hx hb dX5_corner_63 (by decide) (fun c63 => ?_) (fun c63 => ?_)
            · skip
              exact absurd c63 (by decide)
            · rw [← nI_0, nI_leI (by omega) (by omega), Nat.not_le] at c63
              refine lv_lconst (v := 0) hx hb dX5_corner_66 (by decide) ?_
              refine lv_goto (tgt := 99) hx hb dX5_corner_67 (by decide) ?_
              exact kEl hx hb hr hlocks hP hK hD hS dX5_corner_99 rfl
    · skip
      exact absurd c10 (by decide)

set_option maxHeartbeats 4000000 in
set_option maxRecDepth 100000 in
theorem tX5_corner_o0 (l : Launch) (dC : Nat → ClassId) (dI : Nat → Nat → Nat) (cJ cI cZ : ClassId) (om cd ns apx apy act nb asd amv asl apl asw nw aor nc aon atw aup alw nm : Nat) (mx my up lo rx ry : Int64) (fpx : Nat → Int64) (fpy : Nat → Int64) (ct : Nat → Nat) (od : Nat → Nat) (s_ k : Nat) (hs : s_ < ns) (hn : ns ≤ 16) (hc : ct s_ ≤ 16) (hk : k < (mC1 fpx fpy (16 * s_) (16 * s_ + ct s_) od (ct s_)).2) : MMl l yX5_corner wsX5_corner { frames := 4, cells := 0, slots := 0, locals := 119 } [.ref om, .int (nI s_), .int (nI k), .int (nI 0)] (dC, dI) [(om, .inr (5, [.int (nI cd), .int (nI ns), .ref apx, .ref apy, .ref act, .int (nI nb), .ref asd, .ref amv, .ref asl, .ref apl, .ref asw, .int (nI nw), .ref aor, .int (nI nc), .ref aon, .ref atw, .long mx, .long my, .ref aup, .ref alw, .int (nI nm), .long up, .long lo, .long rx, .long ry])), (apx, .inl (cJ, 256, .inr (.inl fpx))), (apy, .inl (cJ, 256, .inr (.inl fpy))), (act, .inl (cI, 16, .inl (nF ct))), (aor, .inl (cI, 16, .inl (nF od)))] [(om, .inr (5, [.int (nI 0), .int (nI ns), .ref apx, .ref apy, .ref act, .int (nI nb), .ref asd, .ref amv, .ref asl, .ref apl, .ref asw, .int (nI nw), .ref aor, .int (nI ((mC1 fpx fpy (16 * s_) (16 * s_ + ct s_) od (ct s_)).2)), .ref aon, .ref atw, .long mx, .long my, .ref aup, .ref alw, .int (nI nm), .long up, .long lo, .long rx, .long ry])), (apx, .inl (cJ, 256, .inr (.inl fpx))), (apy, .inl (cJ, 256, .inr (.inl fpy))), (act, .inl (cI, 16, .inl (nF ct))), (aor, .inl (cI, 16, .inl (nF (mC3 fpx fpy (mC2 fpx fpy (mC1 fpx fpy (16 * s_) (16 * s_ + ct s_) od (ct s_)).1 ((mC1 fpx fpy (16 * s_) (16 * s_ + ct s_) od (ct s_)).2 - 1)) ((mC1 fpx fpy (16 * s_) (16 * s_ + ct s_) od (ct s_)).2 - 1)))))] [(cJ, .long), (cI, .int), (cZ, .boolean)] (fpx ((mC3 fpx fpy (mC2 fpx fpy (mC1 fpx fpy (16 * s_) (16 * s_ + ct s_) od (ct s_)).1 ((mC1 fpx fpy (16 * s_) (16 * s_ + ct s_) od (ct s_)).2 - 1)) ((mC1 fpx fpy (16 * s_) (16 * s_ + ct s_) od (ct s_)).2 - 1)) k)) := by
  intro sz
  refine kOf (cc := cX5_corner) (maxL := 4) (ret := (some .long)) (by decide) rfl (Nat.le_of_ble_eq_true rfl) ?_
  intro p e s m below meth c hx hb hr hml hts hown hlocks hB ls hl
  obtain ⟨hsz, hP, hK, hD0⟩ := hB
  subst hsz
  have hD := hD0.self (sz := s.heap.size)
  generalize hAe : va_A [(om, .inr (5, [.int (nI cd), .int (nI ns), .ref apx, .ref apy, .ref act, .int (nI nb), .ref asd, .ref amv, .ref asl, .ref apl, .ref asw, .int (nI nw), .ref aor, .int (nI nc), .ref aon, .ref atw, .long mx, .long my, .ref aup, .ref alw, .int (nI nm), .long up, .long lo, .long rx, .long ry])), (apx, .inl (cJ, 256, .inr (.inl fpx))), (apy, .inl (cJ, 256, .inr (.inl fpy))), (act, .inl (cI, 16, .inl (nF ct))), (aor, .inl (cI, 16, .inl (nF od)))] s.heap.size = A at hD ⊢
  have hA : ∀ q : Nat, s.heap.size ≤ q → A q := fun q h => by rw [← hAe]; exact Or.inr h
  have hS : va_S A s.heap s.heap [] := va_S.rf
  have hl : lv_has ls 4 [(0, .ref om), (1, .int (nI s_)), (2, .int (nI k)), (3, .int (nI 0))] := hl
  have hi5 : ∀ w ∈ u_ws RX5 TX5 25, w ∈ wsX5_corner := by decide +kernel
  have f7 := hts (.fieldLink RX5 7 "SweptBoxesModel" "px" "[J") (by decide +kernel)
  have f36 := hts (.fieldLink RX5 36 "SweptBoxesModel" "order" "[I") (by decide +kernel)
  have f54 := hts (.fieldLink RX5 54 "SweptBoxesModel" "code" "I") (by decide +kernel)
  have f103 := hts (.fieldLink RX5 103 "SweptBoxesModel" "cornerCount" "I") (by decide +kernel)
  refine lv_aload_n hx hb dX5_corner_0 rfl (lv_at hl 0 rfl) ?_
  refine lv_aload_n hx hb dX5_corner_1 rfl (lv_at hl 0 rfl) ?_
  refine lv_iload_n hx hb dX5_corner_2 rfl (lv_at hl 1 rfl) ?_
  refine kpVi (q0 := 0) (ci := 5) (As := [.int (nI s_)]) (rest := [.ref om]) (WC := [(om, .inr (5, [.int (nI cd), .int (nI ns), .ref apx, .ref apy, .ref act, .int (nI nb), .ref asd, .ref amv, .ref asl, .ref apl, .ref asw, .int (nI nw), .ref aor, .int (nI nc), .ref aon, .ref atw, .long mx, .long my, .ref aup, .ref alw, .int (nI nm), .long up, .long lo, .long rx, .long ry]))]) (tyC := [(cJ, .long), (cI, .int), (cZ, .boolean)]) ⟨hx, hb, hml, hown, hts⟩ (tX5_isShape l dC dI cJ cI cZ om cd ns apx apy act nb asd amv asl apl asw nw aor nc aon atw aup alw nm mx my up lo rx ry (nI s_)) (cwV 1 hts gX5_corner_X5_isShape rfl rfl rfl (by decide +kernel) ⟨Nat.le_of_ble_eq_true rfl, Nat.le_of_ble_eq_true rfl⟩) (kPick (isC := [0]) hP rfl) (hK.sub [0, 1, 2] rfl) rfl rfl rfl rfl hl.1 (Nat.le_of_ble_eq_true rfl) dX5_corner_3 ⟨Nat.le_of_ble_eq_true rfl, Nat.le_of_ble_eq_true rfl⟩ ?_
  refine lv_if_eq (tgt := 22) hx hb dX5_corner_6 (by decide) (fun c6 => ?_) (fun c6 => ?_)
  · replace c6 := bI_0 c6; replace c6 := of_decide_eq_false c6
    exact absurd ⟨nI_pos' (by omega), nI_lt hs (by omega)⟩ c6
  · replace c6 := bI_n c6; replace c6 := of_decide_eq_true c6
    refine lv_iload_n hx hb dX5_corner_9 rfl (lv_at hl 3 rfl) ?_
    refine lv_if_eq (tgt := 18) hx hb dX5_corner_10 (by decide) (fun c10 => ?_) (fun c10 => ?_)
    · rw [← nI_0, nI_eq (by omega) (by omega)] at c10
      refine lv_iconst (v := (nI 0)) hx hb dX5_corner_18 (by decide) ?_
      refine lv_goto (tgt := 23) hx hb dX5_corner_19 (by decide) ?_
      refine va_put (D := (dC, dI)) (ci := 5) (v := .int (nI 0)) (ty := .int) (C := RX5) (T := TX5) (N := 25) hx hb hts hi5 tyX5 tyX5_ok nmX5 hown hK hP hD hS 0 rfl rfl 0 (by decide) f54 (fun _ h9 => h9) rfl (by decide +kernel) rfl rfl (Nat.le_of_ble_eq_true rfl) dX5_corner_23 (fun H locs hP hD hS => ?_)
      have hP : va_P (dC, dI) vwCl [(om, .inr (5, [.int (nI 0), .int (nI ns), .ref apx, .ref apy, .ref act, .int (nI nb), .ref asd, .ref amv, .ref asl, .ref apl, .ref asw, .int (nI nw), .ref aor, .int (nI nc), .ref aon, .ref atw, .long mx, .long my, .ref aup, .ref alw, .int (nI nm), .long up, .long lo, .long rx, .long ry])), (apx, .inl (cJ, 256, .inr (.inl fpx))), (apy, .inl (cJ, 256, .inr (.inl fpy))), (act, .inl (cI, 16, .inl (nF ct))), (aor, .inl (cI, 16, .inl (nF od)))] H := hP
      have hD : va_D A [(om, .inr (5, [.int (nI 0), .int (nI ns), .ref apx, .ref apy, .ref act, .int (nI nb), .ref asd, .ref amv, .ref asl, .ref apl, .ref asw, .int (nI nw), .ref aor, .int (nI nc), .ref aon, .ref atw, .long mx, .long my, .ref aup, .ref alw, .int (nI nm), .long up, .long lo, .long rx, .long ry])), (apx, .inl (cJ, 256, .inr (.inl fpx))), (apy, .inl (cJ, 256, .inr (.inl fpy))), (act, .inl (cI, 16, .inl (nF ct))), (aor, .inl (cI, 16, .inl (nF od)))] := hD
      refine lv_aload_n hx hb dX5_corner_26 rfl (lv_at hl 0 rfl) ?_
      refine va_get (D := (dC, dI)) (ci := 5) (v := .int (nI 0)) (C := RX5) (T := TX5) (N := 25) hx hb hts hi5 hown hK hP 0 rfl rfl 0 (by decide) f54 (fun _ h9 => h9) rfl dX5_corner_27 ?_
      refine lv_if_ne (tgt := 59) hx hb dX5_corner_30 (by decide) (fun c30 => ?_) (fun c30 => ?_)
      · skip
        exact absurd c30 (by decide)
      · rw [← nI_0, nI_eq (by omega) (by omega)] at c30
        refine lv_aload_n hx hb dX5_corner_33 rfl (lv_at hl 0 rfl) ?_
        refine lv_iload_n hx hb dX5_corner_34 rfl (lv_at hl 1 rfl) ?_
        refine kmVv (q0 := 0) (ci := 5) (As := [.int (nI s_)]) (rest := []) (WC := [(om, .inr (5, [.int (nI 0), .int (nI ns), .ref apx, .ref apy, .ref act, .int (nI nb), .ref asd, .ref amv, .ref asl, .ref apl, .ref asw, .int (nI nw), .ref aor, .int (nI nc), .ref aon, .ref atw, .long mx, .long my, .ref aup, .ref alw, .int (nI nm), .long up, .long lo, .long rx, .long ry])), (apx, .inl (cJ, 256, .inr (.inl fpx))), (apy, .inl (cJ, 256, .inr (.inl fpy))), (act, .inl (cI, 16, .inl (nF ct))), (aor, .inl (cI, 16, .inl (nF od)))]) (W2 := [(om, .inr (5, [.int (nI 0), .int (nI ns), .ref apx, .ref apy, .ref act, .int (nI nb), .ref asd, .ref amv, .ref asl, .ref apl, .ref asw, .int (nI nw), .ref aor, .int (nI ((mC1 fpx fpy (16 * s_) (16 * s_ + ct s_) od (ct s_)).2)), .ref aon, .ref atw, .long mx, .long my, .ref aup, .ref alw, .int (nI nm), .long up, .long lo, .long rx, .long ry])), (apx, .inl (cJ, 256, .inr (.inl fpx))), (apy, .inl (cJ, 256, .inr (.inl fpy))), (act, .inl (cI, 16, .inl (nF ct))), (aor, .inl (cI, 16, .inl (nF (mC3 fpx fpy (mC2 fpx fpy (mC1 fpx fpy (16 * s_) (16 * s_ + ct s_) od (ct s_)).1 ((mC1 fpx fpy (16 * s_) (16 * s_ + ct s_) od (ct s_)).2 - 1)) ((mC1 fpx fpy (16 * s_) (16 * s_ + ct s_) od (ct s_)).2 - 1)))))]) (WR := []) (WN := [(om, .inr (5, [.int (nI 0), .int (nI ns), .ref apx, .ref apy, .ref act, .int (nI nb), .ref asd, .ref amv, .ref asl, .ref apl, .ref asw, .int (nI nw), .ref aor, .int (nI ((mC1 fpx fpy (16 * s_) (16 * s_ + ct s_) od (ct s_)).2)), .ref aon, .ref atw, .long mx, .long my, .ref aup, .ref alw, .int (nI nm), .long up, .long lo, .long rx, .long ry])), (apx, .inl (cJ, 256, .inr (.inl fpx))), (apy, .inl (cJ, 256, .inr (.inl fpy))), (act, .inl (cI, 16, .inl (nF ct))), (aor, .inl (cI, 16, .inl (nF (mC3 fpx fpy (mC2 fpx fpy (mC1 fpx fpy (16 * s_) (16 * s_ + ct s_) od (ct s_)).1 ((mC1 fpx fpy (16 * s_) (16 * s_ + ct s_) od (ct s_)).2 - 1)) ((mC1 fpx fpy (16 * s_) (16 * s_ + ct s_) od (ct s_)).2 - 1)))))]) (tyC := [(cJ, .long), (cI, .int), (cZ, .boolean)]) (isC := [0, 1, 2, 3, 4]) (isR := []) (isN := [0, 1, 2, 3, 4]) (its := [0, 1, 2]) ⟨hx, hb, hml, hown, hts⟩ (tX5_findCorners l dC dI cJ cI cZ om 0 ns apx apy act nb asd amv asl apl asw nw aor nc aon atw aup alw nm mx my up lo rx ry fpx fpy ct od s_ (by omega) (by omega)) (cwV 1 hts gX5_corner_X5_findCorners rfl rfl rfl (by decide +kernel) ⟨Nat.le_of_ble_eq_true rfl, Nat.le_of_ble_eq_true rfl⟩) hP hD hA hS hK rfl (by decide) rfl (by decide) (by decide) rfl (by decide) rfl rfl rfl rfl rfl hl.1 (Nat.le_of_ble_eq_true rfl) dX5_corner_35 ⟨Nat.le_of_ble_eq_true rfl, Nat.le_of_ble_eq_true rfl⟩ (fun H locs hP hD hS => ?_)
        have hn1 := mC1_le fpx fpy (16 * s_) (16 * s_ + ct s_) od (ct s_)
        have hb1 : ∀ i, i < (mC1 fpx fpy (16 * s_) (16 * s_ + ct s_) od (ct s_)).2 → (mC1 fpx fpy (16 * s_) (16 * s_ + ct s_) od (ct s_)).1 i < 256 := fun i hi => by have := mC1_bd fpx fpy (16 * s_) (16 * s_ + ct s_) od (ct s_) i hi; omega
        have hb2 : ∀ i, i < (mC1 fpx fpy (16 * s_) (16 * s_ + ct s_) od (ct s_)).2 → (mC2 fpx fpy (mC1 fpx fpy (16 * s_) (16 * s_ + ct s_) od (ct s_)).1 ((mC1 fpx fpy (16 * s_) (16 * s_ + ct s_) od (ct s_)).2 - 1)) i < 256 := mC2_bd hb1 _ (by omega)
        have hb3 := mC3_bd (fpx := fpx) (fpy := fpy) hb2 ((mC1 fpx fpy (16 * s_) (16 * s_ + ct s_) od (ct s_)).2 - 1) (by omega) k hk
        refine lv_aload_n hx hb dX5_corner_38 rfl (lv_at hl 0 rfl) ?_
        refine lv_iload_n hx hb dX5_corner_39 rfl (lv_at hl 2 rfl) ?_
        refine lv_if_lt (tgt := 51) hx hb dX5_corner_40 (by decide) (fun c40 => ?_) (fun c40 => ?_)
        · rw [← nI_0, nI_ltI (by omega) (by omega)] at c40
          exfalso; omega
        · rw [← nI_0, nI_ltI (by omega) (by omega), Nat.not_lt] at c40
          refine lv_iload_n hx hb dX5_corner_43 rfl (lv_at hl 2 rfl) ?_
          refine lv_aload_n hx hb dX5_corner_44 rfl (lv_at hl 0 rfl) ?_
          refine va_get (D := (dC, dI)) (ci := 5) (v := .int (nI ((mC1 fpx fpy (16 * s_) (16 * s_ + ct s_) od (ct s_)).2))) (C := RX5) (T := TX5) (N := 25) hx hb hts hi5 hown hK hP 0 rfl rfl 13 (by decide) f103 (fun _ h9 => h9) rfl dX5_corner_45 ?_
          refine lv_icmp_lt (tgt := 55) hx hb dX5_corner_48 (by decide) (fun c48 => ?_) (fun c48 => ?_)
          · rw [nI_ltI (by omega) (by omega)] at c48
            refine lv_iconst (v := (nI 0)) hx hb dX5_corner_55 (by decide) ?_
            refine va_put (D := (dC, dI)) (ci := 5) (v := .int (nI 0)) (ty := .int) (C := RX5) (T := TX5) (N := 25) hx hb hts hi5 tyX5 tyX5_ok nmX5 hown hK hP hD hS 0 rfl rfl 0 (by decide) f54 (fun _ h9 => h9) rfl (by decide +kernel) rfl rfl (Nat.le_of_ble_eq_true rfl) dX5_corner_56 (fun H locs hP hD hS => ?_)
            have hP : va_P (dC, dI) vwCl [(om, .inr (5, [.int (nI 0), .int (nI ns), .ref apx, .ref apy, .ref act, .int (nI nb), .ref asd, .ref amv, .ref asl, .ref apl, .ref asw, .int (nI nw), .ref aor, .int (nI ((mC1 fpx fpy (16 * s_) (16 * s_ + ct s_) od (ct s_)).2)), .ref aon, .ref atw, .long mx, .long my, .ref aup, .ref alw, .int (nI nm), .long up, .long lo, .long rx, .long ry])), (apx, .inl (cJ, 256, .inr (.inl fpx))), (apy, .inl (cJ, 256, .inr (.inl fpy))), (act, .inl (cI, 16, .inl (nF ct))), (aor, .inl (cI, 16, .inl (nF (mC3 fpx fpy (mC2 fpx fpy (mC1 fpx fpy (16 * s_) (16 * s_ + ct s_) od (ct s_)).1 ((mC1 fpx fpy (16 * s_) (16 * s_ + ct s_) od (ct s_)).2 - 1)) ((mC1 fpx fpy (16 * s_) (16 * s_ + ct s_) od (ct s_)).2 - 1)))))] H := hP
            have hD : va_D A [(om, .inr (5, [.int (nI 0), .int (nI ns), .ref apx, .ref apy, .ref act, .int (nI nb), .ref asd, .ref amv, .ref asl, .ref apl, .ref asw, .int (nI nw), .ref aor, .int (nI ((mC1 fpx fpy (16 * s_) (16 * s_ + ct s_) od (ct s_)).2)), .ref aon, .ref atw, .long mx, .long my, .ref aup, .ref alw, .int (nI nm), .long up, .long lo, .long rx, .long ry])), (apx, .inl (cJ, 256, .inr (.inl fpx))), (apy, .inl (cJ, 256, .inr (.inl fpy))), (act, .inl (cI, 16, .inl (nF ct))), (aor, .inl (cI, 16, .inl (nF (mC3 fpx fpy (mC2 fpx fpy (mC1 fpx fpy (16 * s_) (16 * s_ + ct s_) od (ct s_)).1 ((mC1 fpx fpy (16 * s_) (16 * s_ + ct s_) od (ct s_)).2 - 1)) ((mC1 fpx fpy (16 * s_) (16 * s_ + ct s_) od (ct s_)).2 - 1)))))] := hD
            refine lv_aload_n hx hb dX5_corner_59 rfl (lv_at hl 0 rfl) ?_
            refine va_get (D := (dC, dI)) (ci := 5) (v := .int (nI 0)) (C := RX5) (T := TX5) (N := 25) hx hb hts hi5 hown hK hP 0 rfl rfl 0 (by decide) f54 (fun _ h9 => h9) rfl dX5_corner_60 ?_
            refine lv_if_le (tgt := 70) hx hb dX5_corner_63 (by decide) (fun c63 => ?_) (fun c63 => ?_)
            · rw [← nI_0, nI_leI (by omega) (by omega)] at c63
              refine lv_iload_n hx hb dX5_corner_70 rfl (lv_at hl 3 rfl) ?_
              refine lv_if_ne (tgt := 88) hx hb dX5_corner_71 (by decide) (fun c71 => ?_) (fun c71 => ?_)
              · skip
                exact absurd c71 (by decide)
              · rw [← nI_0, nI_eq (by omega) (by omega)] at c71
                refine lv_aload_n hx hb dX5_corner_74 rfl (lv_at hl 0 rfl) ?_
                refine va_get (D := (dC, dI)) (ci := 5) (v := .ref apx) (C := RX5) (T := TX5) (N := 25) hx hb hts hi5 hown hK hP 0 rfl rfl 2 (by decide) f7 (fun _ h9 => h9) rfl dX5_corner_75 ?_
                refine lv_aload_n hx hb dX5_corner_78 rfl (lv_at hl 0 rfl) ?_
                refine va_get (D := (dC, dI)) (ci := 5) (v := .ref aor) (C := RX5) (T := TX5) (N := 25) hx hb hts hi5 hown hK hP 0 rfl rfl 12 (by decide) f36 (fun _ h9 => h9) rfl dX5_corner_79 ?_
                refine lv_iload_n hx hb dX5_corner_82 rfl (lv_at hl 2 rfl) ?_
                refine va_iald hx hb hK hP 4 1 rfl rfl (vp_in_nI (show k < 16 by omega) (by omega)) dX5_corner_83 ?_
                rw [show (nI k).toNatClampNeg = k from nI_clamp (show k < 2 ^ 31 by omega)]
                rw [show (nF (mC3 fpx fpy (mC2 fpx fpy (mC1 fpx fpy (16 * s_) (16 * s_ + ct s_) od (ct s_)).1 ((mC1 fpx fpy (16 * s_) (16 * s_ + ct s_) od (ct s_)).2 - 1)) ((mC1 fpx fpy (16 * s_) (16 * s_ + ct s_) od (ct s_)).2 - 1))) k = (nI ((mC3 fpx fpy (mC2 fpx fpy (mC1 fpx fpy (16 * s_) (16 * s_ + ct s_) od (ct s_)).1 ((mC1 fpx fpy (16 * s_) (16 * s_ + ct s_) od (ct s_)).2 - 1)) ((mC1 fpx fpy (16 * s_) (16 * s_ + ct s_) od (ct s_)).2 - 1)) k)) from rfl]
                refine va_lald hx hb hK hP 1 0 rfl rfl (vp_in_nI (show ((mC3 fpx fpy (mC2 fpx fpy (mC1 fpx fpy (16 * s_) (16 * s_ + ct s_) od (ct s_)).1 ((mC1 fpx fpy (16 * s_) (16 * s_ + ct s_) od (ct s_)).2 - 1)) ((mC1 fpx fpy (16 * s_) (16 * s_ + ct s_) od (ct s_)).2 - 1)) k) < 256 by omega) (by omega)) dX5_corner_84 ?_
                rw [show (nI ((mC3 fpx fpy (mC2 fpx fpy (mC1 fpx fpy (16 * s_) (16 * s_ + ct s_) od (ct s_)).1 ((mC1 fpx fpy (16 * s_) (16 * s_ + ct s_) od (ct s_)).2 - 1)) ((mC1 fpx fpy (16 * s_) (16 * s_ + ct s_) od (ct s_)).2 - 1)) k)).toNatClampNeg = ((mC3 fpx fpy (mC2 fpx fpy (mC1 fpx fpy (16 * s_) (16 * s_ + ct s_) od (ct s_)).1 ((mC1 fpx fpy (16 * s_) (16 * s_ + ct s_) od (ct s_)).2 - 1)) ((mC1 fpx fpy (16 * s_) (16 * s_ + ct s_) od (ct s_)).2 - 1)) k) from nI_clamp (show ((mC3 fpx fpy (mC2 fpx fpy (mC1 fpx fpy (16 * s_) (16 * s_ + ct s_) od (ct s_)).1 ((mC1 fpx fpy (16 * s_) (16 * s_ + ct s_) od (ct s_)).2 - 1)) ((mC1 fpx fpy (16 * s_) (16 * s_ + ct s_) od (ct s_)).2 - 1)) k) < 2 ^ 31 by omega)]
                refine lv_goto (tgt := 99) hx hb dX5_corner_85 (by decide) ?_
                exact kEl hx hb hr hlocks hP hK hD hS dX5_corner_99 rfl
            · skip
              exact absurd c63 (by decide)
          · rw [nI_ltI (by omega) (by omega), Nat.not_lt] at c48
            exfalso; omega
    · skip
      exact absurd c10 (by decide)

set_option maxHeartbeats 4000000 in
set_option maxRecDepth 100000 in
theorem tX5_corner_e21 (l : Launch) (dC : Nat → ClassId) (dI : Nat → Nat → Nat) (cJ cI cZ : ClassId) (om cd ns apx apy act nb asd amv asl apl asw nw aor nc aon atw aup alw nm : Nat) (mx my up lo rx ry : Int64) (fpx : Nat → Int64) (fpy : Nat → Int64) (ct : Nat → Nat) (od : Nat → Nat) (s_ : Nat) (sk : Int32) (hs : s_ < ns) (hn : ns ≤ 16) (hc : ct s_ ≤ 16) (hbad : ¬ (0 ≤ sk ∧ sk < nI (mC1 fpx fpy (16 * s_) (16 * s_ + ct s_) od (ct s_)).2)) : MMl l yX5_corner wsX5_corner { frames := 4, cells := 0, slots := 0, locals := 119 } [.ref om, .int (nI s_), .int sk, .int (nI 1)] (dC, dI) [(om, .inr (5, [.int (nI cd), .int (nI ns), .ref apx, .ref apy, .ref act, .int (nI nb), .ref asd, .ref amv, .ref asl, .ref apl, .ref asw, .int (nI nw), .ref aor, .int (nI nc), .ref aon, .ref atw, .long mx, .long my, .ref aup, .ref alw, .int (nI nm), .long up, .long lo, .long rx, .long ry])), (apx, .inl (cJ, 256, .inr (.inl fpx))), (apy, .inl (cJ, 256, .inr (.inl fpy))), (act, .inl (cI, 16, .inl (nF ct))), (aor, .inl (cI, 16, .inl (nF od)))] [(om, .inr (5, [.int (nI 1), .int (nI ns), .ref apx, .ref apy, .ref act, .int (nI nb), .ref asd, .ref amv, .ref asl, .ref apl, .ref asw, .int (nI nw), .ref aor, .int (nI ((mC1 fpx fpy (16 * s_) (16 * s_ + ct s_) od (ct s_)).2)), .ref aon, .ref atw, .long mx, .long my, .ref aup, .ref alw, .int (nI nm), .long up, .long lo, .long rx, .long ry])), (apx, .inl (cJ, 256, .inr (.inl fpx))), (apy, .inl (cJ, 256, .inr (.inl fpy))), (act, .inl (cI, 16, .inl (nF ct))), (aor, .inl (cI, 16, .inl (nF (mC3 fpx fpy (mC2 fpx fpy (mC1 fpx fpy (16 * s_) (16 * s_ + ct s_) od (ct s_)).1 ((mC1 fpx fpy (16 * s_) (16 * s_ + ct s_) od (ct s_)).2 - 1)) ((mC1 fpx fpy (16 * s_) (16 * s_ + ct s_) od (ct s_)).2 - 1)))))] [(cJ, .long), (cI, .int), (cZ, .boolean)] (0) := by
  intro sz
  refine kOf (cc := cX5_corner) (maxL := 4) (ret := (some .long)) (by decide) rfl (Nat.le_of_ble_eq_true rfl) ?_
  intro p e s m below meth c hx hb hr hml hts hown hlocks hB ls hl
  obtain ⟨hsz, hP, hK, hD0⟩ := hB
  subst hsz
  have hD := hD0.self (sz := s.heap.size)
  generalize hAe : va_A [(om, .inr (5, [.int (nI cd), .int (nI ns), .ref apx, .ref apy, .ref act, .int (nI nb), .ref asd, .ref amv, .ref asl, .ref apl, .ref asw, .int (nI nw), .ref aor, .int (nI nc), .ref aon, .ref atw, .long mx, .long my, .ref aup, .ref alw, .int (nI nm), .long up, .long lo, .long rx, .long ry])), (apx, .inl (cJ, 256, .inr (.inl fpx))), (apy, .inl (cJ, 256, .inr (.inl fpy))), (act, .inl (cI, 16, .inl (nF ct))), (aor, .inl (cI, 16, .inl (nF od)))] s.heap.size = A at hD ⊢
  have hA : ∀ q : Nat, s.heap.size ≤ q → A q := fun q h => by rw [← hAe]; exact Or.inr h
  have hS : va_S A s.heap s.heap [] := va_S.rf
  have hl : lv_has ls 4 [(0, .ref om), (1, .int (nI s_)), (2, .int sk), (3, .int (nI 1))] := hl
  have hi5 : ∀ w ∈ u_ws RX5 TX5 25, w ∈ wsX5_corner := by decide +kernel
  have f54 := hts (.fieldLink RX5 54 "SweptBoxesModel" "code" "I") (by decide +kernel)
  have f103 := hts (.fieldLink RX5 103 "SweptBoxesModel" "cornerCount" "I") (by decide +kernel)
  refine lv_aload_n hx hb dX5_corner_0 rfl (lv_at hl 0 rfl) ?_
  refine lv_aload_n hx hb dX5_corner_1 rfl (lv_at hl 0 rfl) ?_
  refine lv_iload_n hx hb dX5_corner_2 rfl (lv_at hl 1 rfl) ?_
  refine kpVi (q0 := 0) (ci := 5) (As := [.int (nI s_)]) (rest := [.ref om]) (WC := [(om, .inr (5, [.int (nI cd), .int (nI ns), .ref apx, .ref apy, .ref act, .int (nI nb), .ref asd, .ref amv, .ref asl, .ref apl, .ref asw, .int (nI nw), .ref aor, .int (nI nc), .ref aon, .ref atw, .long mx, .long my, .ref aup, .ref alw, .int (nI nm), .long up, .long lo, .long rx, .long ry]))]) (tyC := [(cJ, .long), (cI, .int), (cZ, .boolean)]) ⟨hx, hb, hml, hown, hts⟩ (tX5_isShape l dC dI cJ cI cZ om cd ns apx apy act nb asd amv asl apl asw nw aor nc aon atw aup alw nm mx my up lo rx ry (nI s_)) (cwV 1 hts gX5_corner_X5_isShape rfl rfl rfl (by decide +kernel) ⟨Nat.le_of_ble_eq_true rfl, Nat.le_of_ble_eq_true rfl⟩) (kPick (isC := [0]) hP rfl) (hK.sub [0, 1, 2] rfl) rfl rfl rfl rfl hl.1 (Nat.le_of_ble_eq_true rfl) dX5_corner_3 ⟨Nat.le_of_ble_eq_true rfl, Nat.le_of_ble_eq_true rfl⟩ ?_
  refine lv_if_eq (tgt := 22) hx hb dX5_corner_6 (by decide) (fun c6 => ?_) (fun c6 => ?_)
  · replace c6 := bI_0 c6; replace c6 := of_decide_eq_false c6
    exact absurd ⟨nI_pos' (by omega), nI_lt hs (by omega)⟩ c6
  · replace c6 := bI_n c6; replace c6 := of_decide_eq_true c6
    refine lv_iload_n hx hb dX5_corner_9 rfl (lv_at hl 3 rfl) ?_
    refine lv_if_eq (tgt := 18) hx hb dX5_corner_10 (by decide) (fun c10 => ?_) (fun c10 => ?_)
    · skip
      exact absurd c10 (by decide)
    · rw [← nI_0, nI_eq (by omega) (by omega)] at c10
      refine lv_iload_n hx hb dX5_corner_13 rfl (lv_at hl 3 rfl) ?_
      refine lv_iconst (v := (nI 1)) hx hb dX5_corner_14 (by decide) ?_
      refine lv_icmp_ne (tgt := 22) hx hb dX5_corner_15 (by decide) (fun c15 => ?_) (fun c15 => ?_)
      · skip
        exact absurd c15 (by decide)
      · rw [nI_eq (by omega) (by omega)] at c15
        refine lv_iconst (v := (nI 0)) hx hb dX5_corner_18 (by decide) ?_
        refine lv_goto (tgt := 23) hx hb dX5_corner_19 (by decide) ?_
        refine va_put (D := (dC, dI)) (ci := 5) (v := .int (nI 0)) (ty := .int) (C := RX5) (T := TX5) (N := 25) hx hb hts hi5 tyX5 tyX5_ok nmX5 hown hK hP hD hS 0 rfl rfl 0 (by decide) f54 (fun _ h9 => h9) rfl (by decide +kernel) rfl rfl (Nat.le_of_ble_eq_true rfl) dX5_corner_23 (fun H locs hP hD hS => ?_)
        have hP : va_P (dC, dI) vwCl [(om, .inr (5, [.int (nI 0), .int (nI ns), .ref apx, .ref apy, .ref act, .int (nI nb), .ref asd, .ref amv, .ref asl, .ref apl, .ref asw, .int (nI nw), .ref aor, .int (nI nc), .ref aon, .ref atw, .long mx, .long my, .ref aup, .ref alw, .int (nI nm), .long up, .long lo, .long rx, .long ry])), (apx, .inl (cJ, 256, .inr (.inl fpx))), (apy, .inl (cJ, 256, .inr (.inl fpy))), (act, .inl (cI, 16, .inl (nF ct))), (aor, .inl (cI, 16, .inl (nF od)))] H := hP
        have hD : va_D A [(om, .inr (5, [.int (nI 0), .int (nI ns), .ref apx, .ref apy, .ref act, .int (nI nb), .ref asd, .ref amv, .ref asl, .ref apl, .ref asw, .int (nI nw), .ref aor, .int (nI nc), .ref aon, .ref atw, .long mx, .long my, .ref aup, .ref alw, .int (nI nm), .long up, .long lo, .long rx, .long ry])), (apx, .inl (cJ, 256, .inr (.inl fpx))), (apy, .inl (cJ, 256, .inr (.inl fpy))), (act, .inl (cI, 16, .inl (nF ct))), (aor, .inl (cI, 16, .inl (nF od)))] := hD
        refine lv_aload_n hx hb dX5_corner_26 rfl (lv_at hl 0 rfl) ?_
        refine va_get (D := (dC, dI)) (ci := 5) (v := .int (nI 0)) (C := RX5) (T := TX5) (N := 25) hx hb hts hi5 hown hK hP 0 rfl rfl 0 (by decide) f54 (fun _ h9 => h9) rfl dX5_corner_27 ?_
        refine lv_if_ne (tgt := 59) hx hb dX5_corner_30 (by decide) (fun c30 => ?_) (fun c30 => ?_)
        · skip
          exact absurd c30 (by decide)
        · rw [← nI_0, nI_eq (by omega) (by omega)] at c30
          refine lv_aload_n hx hb dX5_corner_33 rfl (lv_at hl 0 rfl) ?_
          refine lv_iload_n hx hb dX5_corner_34 rfl (lv_at hl 1 rfl) ?_
          refine kmVv (q0 := 0) (ci := 5) (As := [.int (nI s_)]) (rest := []) (WC := [(om, .inr (5, [.int (nI 0), .int (nI ns), .ref apx, .ref apy, .ref act, .int (nI nb), .ref asd, .ref amv, .ref asl, .ref apl, .ref asw, .int (nI nw), .ref aor, .int (nI nc), .ref aon, .ref atw, .long mx, .long my, .ref aup, .ref alw, .int (nI nm), .long up, .long lo, .long rx, .long ry])), (apx, .inl (cJ, 256, .inr (.inl fpx))), (apy, .inl (cJ, 256, .inr (.inl fpy))), (act, .inl (cI, 16, .inl (nF ct))), (aor, .inl (cI, 16, .inl (nF od)))]) (W2 := [(om, .inr (5, [.int (nI 0), .int (nI ns), .ref apx, .ref apy, .ref act, .int (nI nb), .ref asd, .ref amv, .ref asl, .ref apl, .ref asw, .int (nI nw), .ref aor, .int (nI ((mC1 fpx fpy (16 * s_) (16 * s_ + ct s_) od (ct s_)).2)), .ref aon, .ref atw, .long mx, .long my, .ref aup, .ref alw, .int (nI nm), .long up, .long lo, .long rx, .long ry])), (apx, .inl (cJ, 256, .inr (.inl fpx))), (apy, .inl (cJ, 256, .inr (.inl fpy))), (act, .inl (cI, 16, .inl (nF ct))), (aor, .inl (cI, 16, .inl (nF (mC3 fpx fpy (mC2 fpx fpy (mC1 fpx fpy (16 * s_) (16 * s_ + ct s_) od (ct s_)).1 ((mC1 fpx fpy (16 * s_) (16 * s_ + ct s_) od (ct s_)).2 - 1)) ((mC1 fpx fpy (16 * s_) (16 * s_ + ct s_) od (ct s_)).2 - 1)))))]) (WR := []) (WN := [(om, .inr (5, [.int (nI 0), .int (nI ns), .ref apx, .ref apy, .ref act, .int (nI nb), .ref asd, .ref amv, .ref asl, .ref apl, .ref asw, .int (nI nw), .ref aor, .int (nI ((mC1 fpx fpy (16 * s_) (16 * s_ + ct s_) od (ct s_)).2)), .ref aon, .ref atw, .long mx, .long my, .ref aup, .ref alw, .int (nI nm), .long up, .long lo, .long rx, .long ry])), (apx, .inl (cJ, 256, .inr (.inl fpx))), (apy, .inl (cJ, 256, .inr (.inl fpy))), (act, .inl (cI, 16, .inl (nF ct))), (aor, .inl (cI, 16, .inl (nF (mC3 fpx fpy (mC2 fpx fpy (mC1 fpx fpy (16 * s_) (16 * s_ + ct s_) od (ct s_)).1 ((mC1 fpx fpy (16 * s_) (16 * s_ + ct s_) od (ct s_)).2 - 1)) ((mC1 fpx fpy (16 * s_) (16 * s_ + ct s_) od (ct s_)).2 - 1)))))]) (tyC := [(cJ, .long), (cI, .int), (cZ, .boolean)]) (isC := [0, 1, 2, 3, 4]) (isR := []) (isN := [0, 1, 2, 3, 4]) (its := [0, 1, 2]) ⟨hx, hb, hml, hown, hts⟩ (tX5_findCorners l dC dI cJ cI cZ om 0 ns apx apy act nb asd amv asl apl asw nw aor nc aon atw aup alw nm mx my up lo rx ry fpx fpy ct od s_ (by omega) (by omega)) (cwV 1 hts gX5_corner_X5_findCorners rfl rfl rfl (by decide +kernel) ⟨Nat.le_of_ble_eq_true rfl, Nat.le_of_ble_eq_true rfl⟩) hP hD hA hS hK rfl (by decide) rfl (by decide) (by decide) rfl (by decide) rfl rfl rfl rfl rfl hl.1 (Nat.le_of_ble_eq_true rfl) dX5_corner_35 ⟨Nat.le_of_ble_eq_true rfl, Nat.le_of_ble_eq_true rfl⟩ (fun H locs hP hD hS => ?_)
          refine lv_aload_n hx hb dX5_corner_38 rfl (lv_at hl 0 rfl) ?_
          refine lv_iload_n hx hb dX5_corner_39 rfl (lv_at hl 2 rfl) ?_
          refine lv_if_lt (tgt := 51) hx hb dX5_corner_40 (by decide) (fun c40 => ?_) (fun c40 => ?_)
          · skip
            refine lv_iconst (v := (nI 1)) hx hb dX5_corner_51 (by decide) ?_
            refine lv_goto (tgt := 56) hx hb dX5_corner_52 (by decide) ?_
            refine va_put (D := (dC, dI)) (ci := 5) (v := .int (nI 1)) (ty := .int) (C := RX5) (T := TX5) (N := 25) hx hb hts hi5 tyX5 tyX5_ok nmX5 hown hK hP hD hS 0 rfl rfl 0 (by decide) f54 (fun _ h9 => h9) rfl (by decide +kernel) rfl rfl (Nat.le_of_ble_eq_true rfl) dX5_corner_56 (fun H locs hP hD hS => ?_)
            have hP : va_P (dC, dI) vwCl [(om, .inr (5, [.int (nI 1), .int (nI ns), .ref apx, .ref apy, .ref act, .int (nI nb), .ref asd, .ref amv, .ref asl, .ref apl, .ref asw, .int (nI nw), .ref aor, .int (nI ((mC1 fpx fpy (16 * s_) (16 * s_ + ct s_) od (ct s_)).2)), .ref aon, .ref atw, .long mx, .long my, .ref aup, .ref alw, .int (nI nm), .long up, .long lo, .long rx, .long ry])), (apx, .inl (cJ, 256, .inr (.inl fpx))), (apy, .inl (cJ, 256, .inr (.inl fpy))), (act, .inl (cI, 16, .inl (nF ct))), (aor, .inl (cI, 16, .inl (nF (mC3 fpx fpy (mC2 fpx fpy (mC1 fpx fpy (16 * s_) (16 * s_ + ct s_) od (ct s_)).1 ((mC1 fpx fpy (16 * s_) (16 * s_ + ct s_) od (ct s_)).2 - 1)) ((mC1 fpx fpy (16 * s_) (16 * s_ + ct s_) od (ct s_)).2 - 1)))))] H := hP
            have hD : va_D A [(om, .inr (5, [.int (nI 1), .int (nI ns), .ref apx, .ref apy, .ref act, .int (nI nb), .ref asd, .ref amv, .ref asl, .ref apl, .ref asw, .int (nI nw), .ref aor, .int (nI ((mC1 fpx fpy (16 * s_) (16 * s_ + ct s_) od (ct s_)).2)), .ref aon, .ref atw, .long mx, .long my, .ref aup, .ref alw, .int (nI nm), .long up, .long lo, .long rx, .long ry])), (apx, .inl (cJ, 256, .inr (.inl fpx))), (apy, .inl (cJ, 256, .inr (.inl fpy))), (act, .inl (cI, 16, .inl (nF ct))), (aor, .inl (cI, 16, .inl (nF (mC3 fpx fpy (mC2 fpx fpy (mC1 fpx fpy (16 * s_) (16 * s_ + ct s_) od (ct s_)).1 ((mC1 fpx fpy (16 * s_) (16 * s_ + ct s_) od (ct s_)).2 - 1)) ((mC1 fpx fpy (16 * s_) (16 * s_ + ct s_) od (ct s_)).2 - 1)))))] := hD
            refine lv_aload_n hx hb dX5_corner_59 rfl (lv_at hl 0 rfl) ?_
            refine va_get (D := (dC, dI)) (ci := 5) (v := .int (nI 1)) (C := RX5) (T := TX5) (N := 25) hx hb hts hi5 hown hK hP 0 rfl rfl 0 (by decide) f54 (fun _ h9 => h9) rfl dX5_corner_60 ?_
            refine lv_if_le (tgt := 70) hx hb dX5_corner_63 (by decide) (fun c63 => ?_) (fun c63 => ?_)
            · skip
              exact absurd c63 (by decide)
            · rw [← nI_0, nI_leI (by omega) (by omega), Nat.not_le] at c63
              refine lv_lconst (v := 0) hx hb dX5_corner_66 (by decide) ?_
              refine lv_goto (tgt := 99) hx hb dX5_corner_67 (by decide) ?_
              exact kEl hx hb hr hlocks hP hK hD hS dX5_corner_99 rfl
          · skip
            refine lv_iload_n hx hb dX5_corner_43 rfl (lv_at hl 2 rfl) ?_
            refine lv_aload_n hx hb dX5_corner_44 rfl (lv_at hl 0 rfl) ?_
            refine va_get (D := (dC, dI)) (ci := 5) (v := .int (nI ((mC1 fpx fpy (16 * s_) (16 * s_ + ct s_) od (ct s_)).2))) (C := RX5) (T := TX5) (N := 25) hx hb hts hi5 hown hK hP 0 rfl rfl 13 (by decide) f103 (fun _ h9 => h9) rfl dX5_corner_45 ?_
            refine lv_icmp_lt (tgt := 55) hx hb dX5_corner_48 (by decide) (fun c48 => ?_) (fun c48 => ?_)
            · skip
              exact absurd ⟨Int32.not_lt.mp c40, c48⟩ hbad
            · skip
              refine lv_iconst (v := (nI 1)) hx hb dX5_corner_51 (by decide) ?_
              refine lv_goto (tgt := 56) hx hb dX5_corner_52 (by decide) ?_
              refine va_put (D := (dC, dI)) (ci := 5) (v := .int (nI 1)) (ty := .int) (C := RX5) (T := TX5) (N := 25) hx hb hts hi5 tyX5 tyX5_ok nmX5 hown hK hP hD hS 0 rfl rfl 0 (by decide) f54 (fun _ h9 => h9) rfl (by decide +kernel) rfl rfl (Nat.le_of_ble_eq_true rfl) dX5_corner_56 (fun H locs hP hD hS => ?_)
              have hP : va_P (dC, dI) vwCl [(om, .inr (5, [.int (nI 1), .int (nI ns), .ref apx, .ref apy, .ref act, .int (nI nb), .ref asd, .ref amv, .ref asl, .ref apl, .ref asw, .int (nI nw), .ref aor, .int (nI ((mC1 fpx fpy (16 * s_) (16 * s_ + ct s_) od (ct s_)).2)), .ref aon, .ref atw, .long mx, .long my, .ref aup, .ref alw, .int (nI nm), .long up, .long lo, .long rx, .long ry])), (apx, .inl (cJ, 256, .inr (.inl fpx))), (apy, .inl (cJ, 256, .inr (.inl fpy))), (act, .inl (cI, 16, .inl (nF ct))), (aor, .inl (cI, 16, .inl (nF (mC3 fpx fpy (mC2 fpx fpy (mC1 fpx fpy (16 * s_) (16 * s_ + ct s_) od (ct s_)).1 ((mC1 fpx fpy (16 * s_) (16 * s_ + ct s_) od (ct s_)).2 - 1)) ((mC1 fpx fpy (16 * s_) (16 * s_ + ct s_) od (ct s_)).2 - 1)))))] H := hP
              have hD : va_D A [(om, .inr (5, [.int (nI 1), .int (nI ns), .ref apx, .ref apy, .ref act, .int (nI nb), .ref asd, .ref amv, .ref asl, .ref apl, .ref asw, .int (nI nw), .ref aor, .int (nI ((mC1 fpx fpy (16 * s_) (16 * s_ + ct s_) od (ct s_)).2)), .ref aon, .ref atw, .long mx, .long my, .ref aup, .ref alw, .int (nI nm), .long up, .long lo, .long rx, .long ry])), (apx, .inl (cJ, 256, .inr (.inl fpx))), (apy, .inl (cJ, 256, .inr (.inl fpy))), (act, .inl (cI, 16, .inl (nF ct))), (aor, .inl (cI, 16, .inl (nF (mC3 fpx fpy (mC2 fpx fpy (mC1 fpx fpy (16 * s_) (16 * s_ + ct s_) od (ct s_)).1 ((mC1 fpx fpy (16 * s_) (16 * s_ + ct s_) od (ct s_)).2 - 1)) ((mC1 fpx fpy (16 * s_) (16 * s_ + ct s_) od (ct s_)).2 - 1)))))] := hD
              refine lv_aload_n hx hb dX5_corner_59 rfl (lv_at hl 0 rfl) ?_
              refine va_get (D := (dC, dI)) (ci := 5) (v := .int (nI 1)) (C := RX5) (T := TX5) (N := 25) hx hb hts hi5 hown hK hP 0 rfl rfl 0 (by decide) f54 (fun _ h9 => h9) rfl dX5_corner_60 ?_
              refine lv_if_le (tgt := 70) hx hb dX5_corner_63 (by decide) (fun c63 => ?_) (fun c63 => ?_)
              · skip
                exact absurd c63 (by decide)
              · rw [← nI_0, nI_leI (by omega) (by omega), Nat.not_le] at c63
                refine lv_lconst (v := 0) hx hb dX5_corner_66 (by decide) ?_
                refine lv_goto (tgt := 99) hx hb dX5_corner_67 (by decide) ?_
                exact kEl hx hb hr hlocks hP hK hD hS dX5_corner_99 rfl

set_option maxHeartbeats 4000000 in
set_option maxRecDepth 100000 in
theorem tX5_corner_o1 (l : Launch) (dC : Nat → ClassId) (dI : Nat → Nat → Nat) (cJ cI cZ : ClassId) (om cd ns apx apy act nb asd amv asl apl asw nw aor nc aon atw aup alw nm : Nat) (mx my up lo rx ry : Int64) (fpx : Nat → Int64) (fpy : Nat → Int64) (ct : Nat → Nat) (od : Nat → Nat) (s_ k : Nat) (hs : s_ < ns) (hn : ns ≤ 16) (hc : ct s_ ≤ 16) (hk : k < (mC1 fpx fpy (16 * s_) (16 * s_ + ct s_) od (ct s_)).2) : MMl l yX5_corner wsX5_corner { frames := 4, cells := 0, slots := 0, locals := 119 } [.ref om, .int (nI s_), .int (nI k), .int (nI 1)] (dC, dI) [(om, .inr (5, [.int (nI cd), .int (nI ns), .ref apx, .ref apy, .ref act, .int (nI nb), .ref asd, .ref amv, .ref asl, .ref apl, .ref asw, .int (nI nw), .ref aor, .int (nI nc), .ref aon, .ref atw, .long mx, .long my, .ref aup, .ref alw, .int (nI nm), .long up, .long lo, .long rx, .long ry])), (apx, .inl (cJ, 256, .inr (.inl fpx))), (apy, .inl (cJ, 256, .inr (.inl fpy))), (act, .inl (cI, 16, .inl (nF ct))), (aor, .inl (cI, 16, .inl (nF od)))] [(om, .inr (5, [.int (nI 0), .int (nI ns), .ref apx, .ref apy, .ref act, .int (nI nb), .ref asd, .ref amv, .ref asl, .ref apl, .ref asw, .int (nI nw), .ref aor, .int (nI ((mC1 fpx fpy (16 * s_) (16 * s_ + ct s_) od (ct s_)).2)), .ref aon, .ref atw, .long mx, .long my, .ref aup, .ref alw, .int (nI nm), .long up, .long lo, .long rx, .long ry])), (apx, .inl (cJ, 256, .inr (.inl fpx))), (apy, .inl (cJ, 256, .inr (.inl fpy))), (act, .inl (cI, 16, .inl (nF ct))), (aor, .inl (cI, 16, .inl (nF (mC3 fpx fpy (mC2 fpx fpy (mC1 fpx fpy (16 * s_) (16 * s_ + ct s_) od (ct s_)).1 ((mC1 fpx fpy (16 * s_) (16 * s_ + ct s_) od (ct s_)).2 - 1)) ((mC1 fpx fpy (16 * s_) (16 * s_ + ct s_) od (ct s_)).2 - 1)))))] [(cJ, .long), (cI, .int), (cZ, .boolean)] (fpy ((mC3 fpx fpy (mC2 fpx fpy (mC1 fpx fpy (16 * s_) (16 * s_ + ct s_) od (ct s_)).1 ((mC1 fpx fpy (16 * s_) (16 * s_ + ct s_) od (ct s_)).2 - 1)) ((mC1 fpx fpy (16 * s_) (16 * s_ + ct s_) od (ct s_)).2 - 1)) k)) := by
  intro sz
  refine kOf (cc := cX5_corner) (maxL := 4) (ret := (some .long)) (by decide) rfl (Nat.le_of_ble_eq_true rfl) ?_
  intro p e s m below meth c hx hb hr hml hts hown hlocks hB ls hl
  obtain ⟨hsz, hP, hK, hD0⟩ := hB
  subst hsz
  have hD := hD0.self (sz := s.heap.size)
  generalize hAe : va_A [(om, .inr (5, [.int (nI cd), .int (nI ns), .ref apx, .ref apy, .ref act, .int (nI nb), .ref asd, .ref amv, .ref asl, .ref apl, .ref asw, .int (nI nw), .ref aor, .int (nI nc), .ref aon, .ref atw, .long mx, .long my, .ref aup, .ref alw, .int (nI nm), .long up, .long lo, .long rx, .long ry])), (apx, .inl (cJ, 256, .inr (.inl fpx))), (apy, .inl (cJ, 256, .inr (.inl fpy))), (act, .inl (cI, 16, .inl (nF ct))), (aor, .inl (cI, 16, .inl (nF od)))] s.heap.size = A at hD ⊢
  have hA : ∀ q : Nat, s.heap.size ≤ q → A q := fun q h => by rw [← hAe]; exact Or.inr h
  have hS : va_S A s.heap s.heap [] := va_S.rf
  have hl : lv_has ls 4 [(0, .ref om), (1, .int (nI s_)), (2, .int (nI k)), (3, .int (nI 1))] := hl
  have hi5 : ∀ w ∈ u_ws RX5 TX5 25, w ∈ wsX5_corner := by decide +kernel
  have f13 := hts (.fieldLink RX5 13 "SweptBoxesModel" "py" "[J") (by decide +kernel)
  have f36 := hts (.fieldLink RX5 36 "SweptBoxesModel" "order" "[I") (by decide +kernel)
  have f54 := hts (.fieldLink RX5 54 "SweptBoxesModel" "code" "I") (by decide +kernel)
  have f103 := hts (.fieldLink RX5 103 "SweptBoxesModel" "cornerCount" "I") (by decide +kernel)
  refine lv_aload_n hx hb dX5_corner_0 rfl (lv_at hl 0 rfl) ?_
  refine lv_aload_n hx hb dX5_corner_1 rfl (lv_at hl 0 rfl) ?_
  refine lv_iload_n hx hb dX5_corner_2 rfl (lv_at hl 1 rfl) ?_
  refine kpVi (q0 := 0) (ci := 5) (As := [.int (nI s_)]) (rest := [.ref om]) (WC := [(om, .inr (5, [.int (nI cd), .int (nI ns), .ref apx, .ref apy, .ref act, .int (nI nb), .ref asd, .ref amv, .ref asl, .ref apl, .ref asw, .int (nI nw), .ref aor, .int (nI nc), .ref aon, .ref atw, .long mx, .long my, .ref aup, .ref alw, .int (nI nm), .long up, .long lo, .long rx, .long ry]))]) (tyC := [(cJ, .long), (cI, .int), (cZ, .boolean)]) ⟨hx, hb, hml, hown, hts⟩ (tX5_isShape l dC dI cJ cI cZ om cd ns apx apy act nb asd amv asl apl asw nw aor nc aon atw aup alw nm mx my up lo rx ry (nI s_)) (cwV 1 hts gX5_corner_X5_isShape rfl rfl rfl (by decide +kernel) ⟨Nat.le_of_ble_eq_true rfl, Nat.le_of_ble_eq_true rfl⟩) (kPick (isC := [0]) hP rfl) (hK.sub [0, 1, 2] rfl) rfl rfl rfl rfl hl.1 (Nat.le_of_ble_eq_true rfl) dX5_corner_3 ⟨Nat.le_of_ble_eq_true rfl, Nat.le_of_ble_eq_true rfl⟩ ?_
  refine lv_if_eq (tgt := 22) hx hb dX5_corner_6 (by decide) (fun c6 => ?_) (fun c6 => ?_)
  · replace c6 := bI_0 c6; replace c6 := of_decide_eq_false c6
    exact absurd ⟨nI_pos' (by omega), nI_lt hs (by omega)⟩ c6
  · replace c6 := bI_n c6; replace c6 := of_decide_eq_true c6
    refine lv_iload_n hx hb dX5_corner_9 rfl (lv_at hl 3 rfl) ?_
    refine lv_if_eq (tgt := 18) hx hb dX5_corner_10 (by decide) (fun c10 => ?_) (fun c10 => ?_)
    · skip
      exact absurd c10 (by decide)
    · rw [← nI_0, nI_eq (by omega) (by omega)] at c10
      refine lv_iload_n hx hb dX5_corner_13 rfl (lv_at hl 3 rfl) ?_
      refine lv_iconst (v := (nI 1)) hx hb dX5_corner_14 (by decide) ?_
      refine lv_icmp_ne (tgt := 22) hx hb dX5_corner_15 (by decide) (fun c15 => ?_) (fun c15 => ?_)
      · skip
        exact absurd c15 (by decide)
      · rw [nI_eq (by omega) (by omega)] at c15
        refine lv_iconst (v := (nI 0)) hx hb dX5_corner_18 (by decide) ?_
        refine lv_goto (tgt := 23) hx hb dX5_corner_19 (by decide) ?_
        refine va_put (D := (dC, dI)) (ci := 5) (v := .int (nI 0)) (ty := .int) (C := RX5) (T := TX5) (N := 25) hx hb hts hi5 tyX5 tyX5_ok nmX5 hown hK hP hD hS 0 rfl rfl 0 (by decide) f54 (fun _ h9 => h9) rfl (by decide +kernel) rfl rfl (Nat.le_of_ble_eq_true rfl) dX5_corner_23 (fun H locs hP hD hS => ?_)
        have hP : va_P (dC, dI) vwCl [(om, .inr (5, [.int (nI 0), .int (nI ns), .ref apx, .ref apy, .ref act, .int (nI nb), .ref asd, .ref amv, .ref asl, .ref apl, .ref asw, .int (nI nw), .ref aor, .int (nI nc), .ref aon, .ref atw, .long mx, .long my, .ref aup, .ref alw, .int (nI nm), .long up, .long lo, .long rx, .long ry])), (apx, .inl (cJ, 256, .inr (.inl fpx))), (apy, .inl (cJ, 256, .inr (.inl fpy))), (act, .inl (cI, 16, .inl (nF ct))), (aor, .inl (cI, 16, .inl (nF od)))] H := hP
        have hD : va_D A [(om, .inr (5, [.int (nI 0), .int (nI ns), .ref apx, .ref apy, .ref act, .int (nI nb), .ref asd, .ref amv, .ref asl, .ref apl, .ref asw, .int (nI nw), .ref aor, .int (nI nc), .ref aon, .ref atw, .long mx, .long my, .ref aup, .ref alw, .int (nI nm), .long up, .long lo, .long rx, .long ry])), (apx, .inl (cJ, 256, .inr (.inl fpx))), (apy, .inl (cJ, 256, .inr (.inl fpy))), (act, .inl (cI, 16, .inl (nF ct))), (aor, .inl (cI, 16, .inl (nF od)))] := hD
        refine lv_aload_n hx hb dX5_corner_26 rfl (lv_at hl 0 rfl) ?_
        refine va_get (D := (dC, dI)) (ci := 5) (v := .int (nI 0)) (C := RX5) (T := TX5) (N := 25) hx hb hts hi5 hown hK hP 0 rfl rfl 0 (by decide) f54 (fun _ h9 => h9) rfl dX5_corner_27 ?_
        refine lv_if_ne (tgt := 59) hx hb dX5_corner_30 (by decide) (fun c30 => ?_) (fun c30 => ?_)
        · skip
          exact absurd c30 (by decide)
        · rw [← nI_0, nI_eq (by omega) (by omega)] at c30
          refine lv_aload_n hx hb dX5_corner_33 rfl (lv_at hl 0 rfl) ?_
          refine lv_iload_n hx hb dX5_corner_34 rfl (lv_at hl 1 rfl) ?_
          refine kmVv (q0 := 0) (ci := 5) (As := [.int (nI s_)]) (rest := []) (WC := [(om, .inr (5, [.int (nI 0), .int (nI ns), .ref apx, .ref apy, .ref act, .int (nI nb), .ref asd, .ref amv, .ref asl, .ref apl, .ref asw, .int (nI nw), .ref aor, .int (nI nc), .ref aon, .ref atw, .long mx, .long my, .ref aup, .ref alw, .int (nI nm), .long up, .long lo, .long rx, .long ry])), (apx, .inl (cJ, 256, .inr (.inl fpx))), (apy, .inl (cJ, 256, .inr (.inl fpy))), (act, .inl (cI, 16, .inl (nF ct))), (aor, .inl (cI, 16, .inl (nF od)))]) (W2 := [(om, .inr (5, [.int (nI 0), .int (nI ns), .ref apx, .ref apy, .ref act, .int (nI nb), .ref asd, .ref amv, .ref asl, .ref apl, .ref asw, .int (nI nw), .ref aor, .int (nI ((mC1 fpx fpy (16 * s_) (16 * s_ + ct s_) od (ct s_)).2)), .ref aon, .ref atw, .long mx, .long my, .ref aup, .ref alw, .int (nI nm), .long up, .long lo, .long rx, .long ry])), (apx, .inl (cJ, 256, .inr (.inl fpx))), (apy, .inl (cJ, 256, .inr (.inl fpy))), (act, .inl (cI, 16, .inl (nF ct))), (aor, .inl (cI, 16, .inl (nF (mC3 fpx fpy (mC2 fpx fpy (mC1 fpx fpy (16 * s_) (16 * s_ + ct s_) od (ct s_)).1 ((mC1 fpx fpy (16 * s_) (16 * s_ + ct s_) od (ct s_)).2 - 1)) ((mC1 fpx fpy (16 * s_) (16 * s_ + ct s_) od (ct s_)).2 - 1)))))]) (WR := []) (WN := [(om, .inr (5, [.int (nI 0), .int (nI ns), .ref apx, .ref apy, .ref act, .int (nI nb), .ref asd, .ref amv, .ref asl, .ref apl, .ref asw, .int (nI nw), .ref aor, .int (nI ((mC1 fpx fpy (16 * s_) (16 * s_ + ct s_) od (ct s_)).2)), .ref aon, .ref atw, .long mx, .long my, .ref aup, .ref alw, .int (nI nm), .long up, .long lo, .long rx, .long ry])), (apx, .inl (cJ, 256, .inr (.inl fpx))), (apy, .inl (cJ, 256, .inr (.inl fpy))), (act, .inl (cI, 16, .inl (nF ct))), (aor, .inl (cI, 16, .inl (nF (mC3 fpx fpy (mC2 fpx fpy (mC1 fpx fpy (16 * s_) (16 * s_ + ct s_) od (ct s_)).1 ((mC1 fpx fpy (16 * s_) (16 * s_ + ct s_) od (ct s_)).2 - 1)) ((mC1 fpx fpy (16 * s_) (16 * s_ + ct s_) od (ct s_)).2 - 1)))))]) (tyC := [(cJ, .long), (cI, .int), (cZ, .boolean)]) (isC := [0, 1, 2, 3, 4]) (isR := []) (isN := [0, 1, 2, 3, 4]) (its := [0, 1, 2]) ⟨hx, hb, hml, hown, hts⟩ (tX5_findCorners l dC dI cJ cI cZ om 0 ns apx apy act nb asd amv asl apl asw nw aor nc aon atw aup alw nm mx my up lo rx ry fpx fpy ct od s_ (by omega) (by omega)) (cwV 1 hts gX5_corner_X5_findCorners rfl rfl rfl (by decide +kernel) ⟨Nat.le_of_ble_eq_true rfl, Nat.le_of_ble_eq_true rfl⟩) hP hD hA hS hK rfl (by decide) rfl (by decide) (by decide) rfl (by decide) rfl rfl rfl rfl rfl hl.1 (Nat.le_of_ble_eq_true rfl) dX5_corner_35 ⟨Nat.le_of_ble_eq_true rfl, Nat.le_of_ble_eq_true rfl⟩ (fun H locs hP hD hS => ?_)
          have hn1 := mC1_le fpx fpy (16 * s_) (16 * s_ + ct s_) od (ct s_)
          have hb1 : ∀ i, i < (mC1 fpx fpy (16 * s_) (16 * s_ + ct s_) od (ct s_)).2 → (mC1 fpx fpy (16 * s_) (16 * s_ + ct s_) od (ct s_)).1 i < 256 := fun i hi => by have := mC1_bd fpx fpy (16 * s_) (16 * s_ + ct s_) od (ct s_) i hi; omega
          have hb2 : ∀ i, i < (mC1 fpx fpy (16 * s_) (16 * s_ + ct s_) od (ct s_)).2 → (mC2 fpx fpy (mC1 fpx fpy (16 * s_) (16 * s_ + ct s_) od (ct s_)).1 ((mC1 fpx fpy (16 * s_) (16 * s_ + ct s_) od (ct s_)).2 - 1)) i < 256 := mC2_bd hb1 _ (by omega)
          have hb3 := mC3_bd (fpx := fpx) (fpy := fpy) hb2 ((mC1 fpx fpy (16 * s_) (16 * s_ + ct s_) od (ct s_)).2 - 1) (by omega) k hk
          refine lv_aload_n hx hb dX5_corner_38 rfl (lv_at hl 0 rfl) ?_
          refine lv_iload_n hx hb dX5_corner_39 rfl (lv_at hl 2 rfl) ?_
          refine lv_if_lt (tgt := 51) hx hb dX5_corner_40 (by decide) (fun c40 => ?_) (fun c40 => ?_)
          · rw [← nI_0, nI_ltI (by omega) (by omega)] at c40
            exfalso; omega
          · rw [← nI_0, nI_ltI (by omega) (by omega), Nat.not_lt] at c40
            refine lv_iload_n hx hb dX5_corner_43 rfl (lv_at hl 2 rfl) ?_
            refine lv_aload_n hx hb dX5_corner_44 rfl (lv_at hl 0 rfl) ?_
            refine va_get (D := (dC, dI)) (ci := 5) (v := .int (nI ((mC1 fpx fpy (16 * s_) (16 * s_ + ct s_) od (ct s_)).2))) (C := RX5) (T := TX5) (N := 25) hx hb hts hi5 hown hK hP 0 rfl rfl 13 (by decide) f103 (fun _ h9 => h9) rfl dX5_corner_45 ?_
            refine lv_icmp_lt (tgt := 55) hx hb dX5_corner_48 (by decide) (fun c48 => ?_) (fun c48 => ?_)
            · rw [nI_ltI (by omega) (by omega)] at c48
              refine lv_iconst (v := (nI 0)) hx hb dX5_corner_55 (by decide) ?_
              refine va_put (D := (dC, dI)) (ci := 5) (v := .int (nI 0)) (ty := .int) (C := RX5) (T := TX5) (N := 25) hx hb hts hi5 tyX5 tyX5_ok nmX5 hown hK hP hD hS 0 rfl rfl 0 (by decide) f54 (fun _ h9 => h9) rfl (by decide +kernel) rfl rfl (Nat.le_of_ble_eq_true rfl) dX5_corner_56 (fun H locs hP hD hS => ?_)
              have hP : va_P (dC, dI) vwCl [(om, .inr (5, [.int (nI 0), .int (nI ns), .ref apx, .ref apy, .ref act, .int (nI nb), .ref asd, .ref amv, .ref asl, .ref apl, .ref asw, .int (nI nw), .ref aor, .int (nI ((mC1 fpx fpy (16 * s_) (16 * s_ + ct s_) od (ct s_)).2)), .ref aon, .ref atw, .long mx, .long my, .ref aup, .ref alw, .int (nI nm), .long up, .long lo, .long rx, .long ry])), (apx, .inl (cJ, 256, .inr (.inl fpx))), (apy, .inl (cJ, 256, .inr (.inl fpy))), (act, .inl (cI, 16, .inl (nF ct))), (aor, .inl (cI, 16, .inl (nF (mC3 fpx fpy (mC2 fpx fpy (mC1 fpx fpy (16 * s_) (16 * s_ + ct s_) od (ct s_)).1 ((mC1 fpx fpy (16 * s_) (16 * s_ + ct s_) od (ct s_)).2 - 1)) ((mC1 fpx fpy (16 * s_) (16 * s_ + ct s_) od (ct s_)).2 - 1)))))] H := hP
              have hD : va_D A [(om, .inr (5, [.int (nI 0), .int (nI ns), .ref apx, .ref apy, .ref act, .int (nI nb), .ref asd, .ref amv, .ref asl, .ref apl, .ref asw, .int (nI nw), .ref aor, .int (nI ((mC1 fpx fpy (16 * s_) (16 * s_ + ct s_) od (ct s_)).2)), .ref aon, .ref atw, .long mx, .long my, .ref aup, .ref alw, .int (nI nm), .long up, .long lo, .long rx, .long ry])), (apx, .inl (cJ, 256, .inr (.inl fpx))), (apy, .inl (cJ, 256, .inr (.inl fpy))), (act, .inl (cI, 16, .inl (nF ct))), (aor, .inl (cI, 16, .inl (nF (mC3 fpx fpy (mC2 fpx fpy (mC1 fpx fpy (16 * s_) (16 * s_ + ct s_) od (ct s_)).1 ((mC1 fpx fpy (16 * s_) (16 * s_ + ct s_) od (ct s_)).2 - 1)) ((mC1 fpx fpy (16 * s_) (16 * s_ + ct s_) od (ct s_)).2 - 1)))))] := hD
              refine lv_aload_n hx hb dX5_corner_59 rfl (lv_at hl 0 rfl) ?_
              refine va_get (D := (dC, dI)) (ci := 5) (v := .int (nI 0)) (C := RX5) (T := TX5) (N := 25) hx hb hts hi5 hown hK hP 0 rfl rfl 0 (by decide) f54 (fun _ h9 => h9) rfl dX5_corner_60 ?_
              refine lv_if_le (tgt := 70) hx hb dX5_corner_63 (by decide) (fun c63 => ?_) (fun c63 => ?_)
              · rw [← nI_0, nI_leI (by omega) (by omega)] at c63
                refine lv_iload_n hx hb dX5_corner_70 rfl (lv_at hl 3 rfl) ?_
                refine lv_if_ne (tgt := 88) hx hb dX5_corner_71 (by decide) (fun c71 => ?_) (fun c71 => ?_)
                · rw [← nI_0, nI_eq (by omega) (by omega)] at c71
                  refine lv_aload_n hx hb dX5_corner_88 rfl (lv_at hl 0 rfl) ?_
                  refine va_get (D := (dC, dI)) (ci := 5) (v := .ref apy) (C := RX5) (T := TX5) (N := 25) hx hb hts hi5 hown hK hP 0 rfl rfl 3 (by decide) f13 (fun _ h9 => h9) rfl dX5_corner_89 ?_
                  refine lv_aload_n hx hb dX5_corner_92 rfl (lv_at hl 0 rfl) ?_
                  refine va_get (D := (dC, dI)) (ci := 5) (v := .ref aor) (C := RX5) (T := TX5) (N := 25) hx hb hts hi5 hown hK hP 0 rfl rfl 12 (by decide) f36 (fun _ h9 => h9) rfl dX5_corner_93 ?_
                  refine lv_iload_n hx hb dX5_corner_96 rfl (lv_at hl 2 rfl) ?_
                  refine va_iald hx hb hK hP 4 1 rfl rfl (vp_in_nI (show k < 16 by omega) (by omega)) dX5_corner_97 ?_
                  rw [show (nI k).toNatClampNeg = k from nI_clamp (show k < 2 ^ 31 by omega)]
                  rw [show (nF (mC3 fpx fpy (mC2 fpx fpy (mC1 fpx fpy (16 * s_) (16 * s_ + ct s_) od (ct s_)).1 ((mC1 fpx fpy (16 * s_) (16 * s_ + ct s_) od (ct s_)).2 - 1)) ((mC1 fpx fpy (16 * s_) (16 * s_ + ct s_) od (ct s_)).2 - 1))) k = (nI ((mC3 fpx fpy (mC2 fpx fpy (mC1 fpx fpy (16 * s_) (16 * s_ + ct s_) od (ct s_)).1 ((mC1 fpx fpy (16 * s_) (16 * s_ + ct s_) od (ct s_)).2 - 1)) ((mC1 fpx fpy (16 * s_) (16 * s_ + ct s_) od (ct s_)).2 - 1)) k)) from rfl]
                  refine va_lald hx hb hK hP 2 0 rfl rfl (vp_in_nI (show ((mC3 fpx fpy (mC2 fpx fpy (mC1 fpx fpy (16 * s_) (16 * s_ + ct s_) od (ct s_)).1 ((mC1 fpx fpy (16 * s_) (16 * s_ + ct s_) od (ct s_)).2 - 1)) ((mC1 fpx fpy (16 * s_) (16 * s_ + ct s_) od (ct s_)).2 - 1)) k) < 256 by omega) (by omega)) dX5_corner_98 ?_
                  rw [show (nI ((mC3 fpx fpy (mC2 fpx fpy (mC1 fpx fpy (16 * s_) (16 * s_ + ct s_) od (ct s_)).1 ((mC1 fpx fpy (16 * s_) (16 * s_ + ct s_) od (ct s_)).2 - 1)) ((mC1 fpx fpy (16 * s_) (16 * s_ + ct s_) od (ct s_)).2 - 1)) k)).toNatClampNeg = ((mC3 fpx fpy (mC2 fpx fpy (mC1 fpx fpy (16 * s_) (16 * s_ + ct s_) od (ct s_)).1 ((mC1 fpx fpy (16 * s_) (16 * s_ + ct s_) od (ct s_)).2 - 1)) ((mC1 fpx fpy (16 * s_) (16 * s_ + ct s_) od (ct s_)).2 - 1)) k) from nI_clamp (show ((mC3 fpx fpy (mC2 fpx fpy (mC1 fpx fpy (16 * s_) (16 * s_ + ct s_) od (ct s_)).1 ((mC1 fpx fpy (16 * s_) (16 * s_ + ct s_) od (ct s_)).2 - 1)) ((mC1 fpx fpy (16 * s_) (16 * s_ + ct s_) od (ct s_)).2 - 1)) k) < 2 ^ 31 by omega)]
                  exact kEl hx hb hr hlocks hP hK hD hS dX5_corner_99 rfl
                · skip
                  exact absurd c71 (by decide)
              · skip
                exact absurd c63 (by decide)
            · rw [nI_ltI (by omega) (by omega), Nat.not_lt] at c48
              exfalso; omega
