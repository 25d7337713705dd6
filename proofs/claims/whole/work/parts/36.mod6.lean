set_option maxHeartbeats 4000000 in
set_option maxRecDepth 100000 in
theorem tX5_tell (l : Launch) (dC : Nat → ClassId) (dI : Nat → Nat → Nat) (cJ cI cZ : ClassId) (om cd ns apx apy act nb asd amv asl apl asw nw aor nc aon atw aup alw nm : Nat) (mx my up lo rx ry : Int64) (U L : Nat) (hU : U < 2 ^ 63) (hL0 : 0 < L) (hL : L < 2 ^ 63) : MMv l yX5_tell wsX5_tell { frames := 0, cells := 0, slots := 0, locals := 0 } [.ref om, .long (lN U), .long (lN L)] (dC, dI) [(om, .inr (5, [.int (nI cd), .int (nI ns), .ref apx, .ref apy, .ref act, .int (nI nb), .ref asd, .ref amv, .ref asl, .ref apl, .ref asw, .int (nI nw), .ref aor, .int (nI nc), .ref aon, .ref atw, .long mx, .long my, .ref aup, .ref alw, .int (nI nm), .long up, .long lo, .long rx, .long ry]))] [(om, .inr (5, [.int (nI cd), .int (nI ns), .ref apx, .ref apy, .ref act, .int (nI nb), .ref asd, .ref amv, .ref asl, .ref apl, .ref asw, .int (nI nw), .ref aor, .int (nI nc), .ref aon, .ref atw, .long mx, .long my, .ref aup, .ref alw, .int (nI nm), .long (lN (U / Nat.gcd U L)), .long (lN (L / Nat.gcd U L)), .long rx, .long ry]))] [(cJ, .long), (cI, .int), (cZ, .boolean)] := by
  intro sz
  refine kOf (cc := cX5_tell) (maxL := 11) (ret := none) (by decide) rfl (Nat.le_of_ble_eq_true rfl) ?_
  intro p e s m below meth c hx hb hr hml hts hown hlocks hB ls hl
  obtain ⟨hsz, hP, hK, hD0⟩ := hB
  subst hsz
  have hD := hD0.self (sz := s.heap.size)
  generalize hAe : va_A [(om, .inr (5, [.int (nI cd), .int (nI ns), .ref apx, .ref apy, .ref act, .int (nI nb), .ref asd, .ref amv, .ref asl, .ref apl, .ref asw, .int (nI nw), .ref aor, .int (nI nc), .ref aon, .ref atw, .long mx, .long my, .ref aup, .ref alw, .int (nI nm), .long up, .long lo, .long rx, .long ry]))] s.heap.size = A at hD ⊢
  have hA : ∀ q : Nat, s.heap.size ≤ q → A q := fun q h => by rw [← hAe]; exact Or.inr h
  have hS : va_S A s.heap s.heap [] := va_S.rf
  have hl : lv_has ls 11 [(0, .ref om), (1, .long (lN U)), (3, .long (lN L))] := hl
  have hi5 : ∀ w ∈ u_ws RX5 TX5 25, w ∈ wsX5_tell := by decide +kernel
  have f145 := hts (.fieldLink RX5 145 "SweptBoxesModel" "up" "J") (by decide +kernel)
  have f148 := hts (.fieldLink RX5 148 "SweptBoxesModel" "low" "J") (by decide +kernel)
  refine lv_lload_n hx hb dX5_tell_0 rfl (lv_at hl 1 rfl) ?_
  refine lv_lstore (lv' := [(5, .long (lN U)), (0, .ref om), (1, .long (lN U)), (3, .long (lN L))]) hx hb dX5_tell_1 hl (by decide) rfl (fun ls hl => ?_)
  refine lv_lload_n hx hb dX5_tell_3 rfl (lv_at hl 3 rfl) ?_
  refine lv_lstore (lv' := [(7, .long (lN L)), (5, .long (lN U)), (0, .ref om), (1, .long (lN U)), (3, .long (lN L))]) hx hb dX5_tell_4 hl (by decide) rfl (fun ls hl => ?_)
  refine kLoop (σ := Nat × Nat) (fun xz H locs ls => match xz with | (Aa, Bb) => (va_P (dC, dI) vwCl [(om, .inr (5, [.int (nI cd), .int (nI ns), .ref apx, .ref apy, .ref act, .int (nI nb), .ref asd, .ref amv, .ref asl, .ref apl, .ref asw, .int (nI nw), .ref aor, .int (nI nc), .ref aon, .ref atw, .long mx, .long my, .ref aup, .ref alw, .int (nI nm), .long up, .long lo, .long rx, .long ry]))] H) ∧ (va_D A [(om, .inr (5, [.int (nI cd), .int (nI ns), .ref apx, .ref apy, .ref act, .int (nI nb), .ref asd, .ref amv, .ref asl, .ref apl, .ref asw, .int (nI nw), .ref aor, .int (nI nc), .ref aon, .ref atw, .long mx, .long my, .ref aup, .ref alw, .int (nI nm), .long up, .long lo, .long rx, .long ry]))]) ∧ (va_S A s.heap H locs) ∧ (lv_has ls 11 [(0, .ref om), (1, .long (lN U)), (3, .long (lN L)), (5, .long (lN Aa)), (7, .long (lN Bb))]) ∧ (Aa < 2 ^ 63 ∧ Bb < 2 ^ 63 ∧ Nat.gcd Aa Bb = Nat.gcd U L)) (fun xz => match xz with | (Aa, Bb) => Bb) ?_ (U, L) ?_
  · rintro ⟨Aa, Bb⟩ H locs ls hI ih6
    obtain ⟨hP, hD, hS, hl, hi6_⟩ := hI
    obtain ⟨hA, hB, hG⟩ := hi6_
    refine lv_lload hx hb dX5_tell_6 (lv_at hl 4 rfl) ?_
    refine lv_lconst (v := 0) hx hb dX5_tell_8 (by decide) ?_
    refine W.lcmp hx hb dX5_tell_9 ?_
    refine lv_if_eq (tgt := 31) hx hb dX5_tell_10 (by decide) (fun c10 => ?_) (fun c10 => ?_)
    · rw [lg_cmp_eq] at c10
      have hAe : Aa = Nat.gcd U L := by rw [← hG, (pk_lEQ hB (by decide : (0:Nat) < 2 ^ 63)).mp c10, Nat.gcd_zero_right]
      have hA0 : 0 < Aa := by rw [hAe]; exact Nat.gcd_pos_of_pos_right U hL0
      have hAn : ¬ lN Aa = 0 := fun h => absurd ((pk_lEQ hA (by decide : (0:Nat) < 2 ^ 63)).mp h) (by omega)
      refine lv_aload_n hx hb dX5_tell_31 rfl (lv_at hl 0 rfl) ?_
      refine lv_lload_n hx hb dX5_tell_32 rfl (lv_at hl 1 rfl) ?_
      refine lv_lload hx hb dX5_tell_33 (lv_at hl 3 rfl) ?_
      refine lv_ldiv hx hb dX5_tell_35 hAn ?_
      refine va_put (D := (dC, dI)) (ci := 5) (v := .long ((lN U) / (lN Aa))) (ty := .long) (C := RX5) (T := TX5) (N := 25) hx hb hts hi5 tyX5 tyX5_ok nmX5 hown hK hP hD hS 0 rfl rfl 21 (by decide) f145 (fun _ h9 => h9) rfl (by decide +kernel) rfl rfl (Nat.le_of_ble_eq_true rfl) dX5_tell_36 (fun H locs hP hD hS => ?_)
      have hP : va_P (dC, dI) vwCl [(om, .inr (5, [.int (nI cd), .int (nI ns), .ref apx, .ref apy, .ref act, .int (nI nb), .ref asd, .ref amv, .ref asl, .ref apl, .ref asw, .int (nI nw), .ref aor, .int (nI nc), .ref aon, .ref atw, .long mx, .long my, .ref aup, .ref alw, .int (nI nm), .long ((lN U) / (lN Aa)), .long lo, .long rx, .long ry]))] H := hP
      have hD : va_D A [(om, .inr (5, [.int (nI cd), .int (nI ns), .ref apx, .ref apy, .ref act, .int (nI nb), .ref asd, .ref amv, .ref asl, .ref apl, .ref asw, .int (nI nw), .ref aor, .int (nI nc), .ref aon, .ref atw, .long mx, .long my, .ref aup, .ref alw, .int (nI nm), .long ((lN U) / (lN Aa)), .long lo, .long rx, .long ry]))] := hD
      refine lv_aload_n hx hb dX5_tell_39 rfl (lv_at hl 0 rfl) ?_
      refine lv_lload_n hx hb dX5_tell_40 rfl (lv_at hl 2 rfl) ?_
      refine lv_lload hx hb dX5_tell_41 (lv_at hl 3 rfl) ?_
      refine lv_ldiv hx hb dX5_tell_43 hAn ?_
      refine va_put (D := (dC, dI)) (ci := 5) (v := .long ((lN L) / (lN Aa))) (ty := .long) (C := RX5) (T := TX5) (N := 25) hx hb hts hi5 tyX5 tyX5_ok nmX5 hown hK hP hD hS 0 rfl rfl 22 (by decide) f148 (fun _ h9 => h9) rfl (by decide +kernel) rfl rfl (Nat.le_of_ble_eq_true rfl) dX5_tell_44 (fun H locs hP hD hS => ?_)
      have hP : va_P (dC, dI) vwCl [(om, .inr (5, [.int (nI cd), .int (nI ns), .ref apx, .ref apy, .ref act, .int (nI nb), .ref asd, .ref amv, .ref asl, .ref apl, .ref asw, .int (nI nw), .ref aor, .int (nI nc), .ref aon, .ref atw, .long mx, .long my, .ref aup, .ref alw, .int (nI nm), .long ((lN U) / (lN Aa)), .long ((lN L) / (lN Aa)), .long rx, .long ry]))] H := hP
      have hD : va_D A [(om, .inr (5, [.int (nI cd), .int (nI ns), .ref apx, .ref apy, .ref act, .int (nI nb), .ref asd, .ref amv, .ref asl, .ref apl, .ref asw, .int (nI nw), .ref aor, .int (nI nc), .ref aon, .ref atw, .long mx, .long my, .ref aup, .ref alw, .int (nI nm), .long ((lN U) / (lN Aa)), .long ((lN L) / (lN Aa)), .long rx, .long ry]))] := hD
      have hq0 : (lN (U / Nat.gcd U L)) = ((lN U) / (lN Aa)) := (by first | rw [← hAe, pk_lDiv hU hA0 hA] | rw [← hAe, pk_lDiv hL hA0 hA])
      have hq1 : (lN (L / Nat.gcd U L)) = ((lN L) / (lN Aa)) := (by first | rw [← hAe, pk_lDiv hU hA0 hA] | rw [← hAe, pk_lDiv hL hA0 hA])
      have hw : ([(om, .inr (5, [.int (nI cd), .int (nI ns), .ref apx, .ref apy, .ref act, .int (nI nb), .ref asd, .ref amv, .ref asl, .ref apl, .ref asw, .int (nI nw), .ref aor, .int (nI nc), .ref aon, .ref atw, .long mx, .long my, .ref aup, .ref alw, .int (nI nm), .long ((lN U) / (lN Aa)), .long ((lN L) / (lN Aa)), .long rx, .long ry]))] : va_W) = [(om, .inr (5, [.int (nI cd), .int (nI ns), .ref apx, .ref apy, .ref act, .int (nI nb), .ref asd, .ref amv, .ref asl, .ref apl, .ref asw, .int (nI nw), .ref aor, .int (nI nc), .ref aon, .ref atw, .long mx, .long my, .ref aup, .ref alw, .int (nI nm), .long (lN (U / Nat.gcd U L)), .long (lN (L / Nat.gcd U L)), .long rx, .long ry]))] := by rw [hq0, hq1]
      rw [hw] at hP hD
      exact kEv hx hb hr hlocks hP hK hD hS dX5_tell_47
    · rw [lg_cmp_eq] at c10
      have hB0 : 0 < Bb := Nat.pos_of_ne_zero (fun h => c10 (by rw [h]; rfl))
      refine lv_lload hx hb dX5_tell_13 (lv_at hl 3 rfl) ?_
      refine lv_lload hx hb dX5_tell_15 (lv_at hl 4 rfl) ?_
      refine lv_lrem hx hb dX5_tell_17 c10 ?_
      rw [pk_lRem hA hB0 hB]
      refine lv_lstore (lv' := [(9, .long (lN (Aa % Bb))), (0, .ref om), (1, .long (lN U)), (3, .long (lN L)), (5, .long (lN Aa)), (7, .long (lN Bb))]) hx hb dX5_tell_18 hl (by decide) rfl (fun ls hl => ?_)
      refine lv_lload hx hb dX5_tell_20 (lv_at hl 5 rfl) ?_
      refine lv_lstore (lv' := [(5, .long (lN Bb)), (9, .long (lN (Aa % Bb))), (0, .ref om), (1, .long (lN U)), (3, .long (lN L)), (7, .long (lN Bb))]) hx hb dX5_tell_22 hl (by decide) rfl (fun ls hl => ?_)
      refine lv_lload hx hb dX5_tell_24 (lv_at hl 1 rfl) ?_
      refine lv_lstore (lv' := [(7, .long (lN (Aa % Bb))), (5, .long (lN Bb)), (9, .long (lN (Aa % Bb))), (0, .ref om), (1, .long (lN U)), (3, .long (lN L))]) hx hb dX5_tell_26 hl (by decide) rfl (fun ls hl => ?_)
      refine lv_goto (tgt := 6) hx hb dX5_tell_28 (by decide) ?_
      exact ih6 (Bb, Aa % Bb) _ _ _ ⟨hP, hD, hS, lv_sub hl [3, 4, 5, 1, 0] rfl, ⟨hB, Nat.lt_trans (Nat.mod_lt Aa hB0) hB, by rw [← hG, Nat.gcd_comm Aa Bb, Nat.gcd_rec Bb Aa, Nat.gcd_comm]⟩⟩ (Nat.mod_lt Aa hB0)
  · exact ⟨hP, hD, hS, lv_sub hl [2, 3, 4, 1, 0] rfl, ⟨hU, hL, rfl⟩⟩

def mTu (u l_ : Int64) : Int64 := lN (u.toInt.toNat / Nat.gcd u.toInt.toNat l_.toInt.toNat)
def mTl (u l_ : Int64) : Int64 := lN (l_.toInt.toNat / Nat.gcd u.toInt.toNat l_.toInt.toNat)
theorem mTu_N {U L : Nat} (hU : U < 2 ^ 63) (hL : L < 2 ^ 63) : mTu (lN U) (lN L) = lN (U / Nat.gcd U L) := by unfold mTu; rw [pk_lT hU, pk_lT hL]; rfl
theorem mTl_N {U L : Nat} (hU : U < 2 ^ 63) (hL : L < 2 ^ 63) : mTl (lN U) (lN L) = lN (L / Nat.gcd U L) := by unfold mTl; rw [pk_lT hU, pk_lT hL]; rfl
/-- the first k from i on, of n, with P -/
noncomputable def mFst (P : Nat → Prop) : Nat → Nat → Option Nat
  | _, 0 => none
  | i, n + 1 => if pB (P i) then some i else mFst P (i + 1) n
theorem mFst_some {P : Nat → Prop} : ∀ (n i k : Nat), i ≤ k → k < i + n → P k → (∀ j, i ≤ j → j < k → ¬ P j) → mFst P i n = some k
  | 0, i, k, h1, h2, _, _ => by omega
  | n + 1, i, k, h1, h2, h3, h4 => by
    rw [mFst]
    by_cases hik : i = k
    · subst hik; rw [if_pos (pB_t h3)]
    · rw [if_neg (fun z => h4 i (Nat.le_refl _) (by omega) (pB_iff.mp z))]
      exact mFst_some n (i + 1) k (by omega) (by omega) h3 (fun j a b => h4 j (by omega) b)
theorem mFst_none {P : Nat → Prop} : ∀ (n i : Nat), (∀ j, i ≤ j → j < i + n → ¬ P j) → mFst P i n = none
  | 0, _, _ => rfl
  | n + 1, i, h => by
    rw [mFst, if_neg (fun z => h i (Nat.le_refl _) (by omega) (pB_iff.mp z))]
    exact mFst_none n (i + 1) (fun j a b => h j (by omega) (by omega))
noncomputable def mRu (P : Nat → Prop) (q : (Nat → Int64) × (Nat → Int64) × Nat) : Int64 := match mFst P 0 q.2.2 with
  | some k => mTu (q.1 k) (q.2.1 k)
  | none => -1
noncomputable def mRl (P : Nat → Prop) (q : (Nat → Int64) × (Nat → Int64) × Nat) : Int64 := match mFst P 0 q.2.2 with
  | some k => mTl (q.1 k) (q.2.1 k)
  | none => 1
theorem mRu_s {P : Nat → Prop} {q : (Nat → Int64) × (Nat → Int64) × Nat} {k : Nat} (h : k < q.2.2) (hk : P k) (h4 : ∀ j, j < k → ¬ P j) : mRu P q = mTu (q.1 k) (q.2.1 k) := by
  unfold mRu; rw [mFst_some q.2.2 0 k (Nat.zero_le _) (by omega) hk (fun j _ b => h4 j b)]
theorem mRl_s {P : Nat → Prop} {q : (Nat → Int64) × (Nat → Int64) × Nat} {k : Nat} (h : k < q.2.2) (hk : P k) (h4 : ∀ j, j < k → ¬ P j) : mRl P q = mTl (q.1 k) (q.2.1 k) := by
  unfold mRl; rw [mFst_some q.2.2 0 k (Nat.zero_le _) (by omega) hk (fun j _ b => h4 j b)]
theorem mRu_n {P : Nat → Prop} {q : (Nat → Int64) × (Nat → Int64) × Nat} (h4 : ∀ j, j < q.2.2 → ¬ P j) : mRu P q = -1 := by
  unfold mRu; rw [mFst_none q.2.2 0 (fun j _ b => h4 j (by omega))]
theorem mRl_n {P : Nat → Prop} {q : (Nat → Int64) × (Nat → Int64) × Nat} (h4 : ∀ j, j < q.2.2 → ¬ P j) : mRl P q = 1 := by
  unfold mRl; rw [mFst_none q.2.2 0 (fun j _ b => h4 j (by omega))]
def mAtI (fon ftw : Nat → Int64) (mx my u l_ : Int64) : Prop := mComI (fon 0) (fon 2) (ftw 0) (ftw 2) mx u l_ ∧ mComI (fon 1) (fon 3) (ftw 1) (ftw 3) my u l_
def mHitI (fon ftw : Nat → Int64) (mx my : Int64) (q : (Nat → Int64) × (Nat → Int64) × Nat) (k : Nat) : Prop := mAtI fon ftw mx my (q.1 k) (q.2.1 k) ∨ (k + 1 < q.2.2 ∧ ¬ q.1 k * q.2.1 (k + 1) = q.1 (k + 1) * q.2.1 k ∧ mAtI fon ftw mx my (q.1 k * q.2.1 (k + 1) + q.1 (k + 1) * q.2.1 k) (2 * q.2.1 k * q.2.1 (k + 1)))
def mAtE (fon ftw : Nat → Int64) (mx my u l_ : Int64) : Prop := mComE (fon 0) (fon 2) (ftw 0) (ftw 2) mx u l_ ∧ mComE (fon 1) (fon 3) (ftw 1) (ftw 3) my u l_
def mHitE (fon ftw : Nat → Int64) (mx my : Int64) (q : (Nat → Int64) × (Nat → Int64) × Nat) (k : Nat) : Prop := mAtE fon ftw mx my (q.1 k) (q.2.1 k) ∨ (k + 1 < q.2.2 ∧ ¬ q.1 k * q.2.1 (k + 1) = q.1 (k + 1) * q.2.1 k ∧ mAtE fon ftw mx my (q.1 k * q.2.1 (k + 1) + q.1 (k + 1) * q.2.1 k) (2 * q.2.1 k * q.2.1 (k + 1)))
set_option maxHeartbeats 4000000 in
set_option maxRecDepth 100000 in
theorem tX5_isFound_t (l : Launch) (dC : Nat → ClassId) (dI : Nat → Nat → Nat) (cJ cI cZ : ClassId) (om cd ns apx apy act nb asd amv asl apl asw nw aor nc aon atw aup alw nm : Nat) (mx my up lo rx ry : Int64) (fon : Nat → Int64) (ftw : Nat → Int64) (fup : Nat → Int64) (flw : Nat → Int64)   : MMi l yX5_isFound wsX5_isFound { frames := 2, cells := 0, slots := 0, locals := 65 } [.ref om, .int (bI true)] (dC, dI) [(om, .inr (5, [.int (nI cd), .int (nI ns), .ref apx, .ref apy, .ref act, .int (nI nb), .ref asd, .ref amv, .ref asl, .ref apl, .ref asw, .int (nI nw), .ref aor, .int (nI nc), .ref aon, .ref atw, .long mx, .long my, .ref aup, .ref alw, .int (nI nm), .long up, .long lo, .long rx, .long ry])), (aon, .inl (cJ, 4, .inr (.inl fon))), (atw, .inl (cJ, 4, .inr (.inl ftw))), (aup, .inl (cJ, 12, .inr (.inl fup))), (alw, .inl (cJ, 12, .inr (.inl flw)))] [(om, .inr (5, [.int (nI cd), .int (nI ns), .ref apx, .ref apy, .ref act, .int (nI nb), .ref asd, .ref amv, .ref asl, .ref apl, .ref asw, .int (nI nw), .ref aor, .int (nI nc), .ref aon, .ref atw, .long mx, .long my, .ref aup, .ref alw, .int (nI ((mMo fon ftw mx my (fup, flw, 0)).2.2)), .long (mRu (mHitI fon ftw mx my (mMo fon ftw mx my (fup, flw, 0))) (mMo fon ftw mx my (fup, flw, 0))), .long (mRl (mHitI fon ftw mx my (mMo fon ftw mx my (fup, flw, 0))) (mMo fon ftw mx my (fup, flw, 0))), .long rx, .long ry])), (aon, .inl (cJ, 4, .inr (.inl fon))), (atw, .inl (cJ, 4, .inr (.inl ftw))), (aup, .inl (cJ, 12, .inr (.inl (mMo fon ftw mx my (fup, flw, 0)).1))), (alw, .inl (cJ, 12, .inr (.inl (mMo fon ftw mx my (fup, flw, 0)).2.1)))] [(cJ, .long), (cI, .int), (cZ, .boolean)] (bI (pB (∃ k, k < (mMo fon ftw mx my (fup, flw, 0)).2.2 ∧ (mHitI fon ftw mx my (mMo fon ftw mx my (fup, flw, 0))) k))) := by
  intro sz
  refine kOf (cc := cX5_isFound) (maxL := 5) (ret := (some .boolean)) (by decide) rfl (Nat.le_of_ble_eq_true rfl) ?_
  intro p e s m below meth c hx hb hr hml hts hown hlocks hB ls hl
  obtain ⟨hsz, hP, hK, hD0⟩ := hB
  subst hsz
  have hD := hD0.self (sz := s.heap.size)
  generalize hAe : va_A [(om, .inr (5, [.int (nI cd), .int (nI ns), .ref apx, .ref apy, .ref act, .int (nI nb), .ref asd, .ref amv, .ref asl, .ref apl, .ref asw, .int (nI nw), .ref aor, .int (nI nc), .ref aon, .ref atw, .long mx, .long my, .ref aup, .ref alw, .int (nI nm), .long up, .long lo, .long rx, .long ry])), (aon, .inl (cJ, 4, .inr (.inl fon))), (atw, .inl (cJ, 4, .inr (.inl ftw))), (aup, .inl (cJ, 12, .inr (.inl fup))), (alw, .inl (cJ, 12, .inr (.inl flw)))] s.heap.size = A at hD ⊢
  have hA : ∀ q : Nat, s.heap.size ≤ q → A q := fun q h => by rw [← hAe]; exact Or.inr h
  have hS : va_S A s.heap s.heap [] := va_S.rf
  have hl : lv_has ls 5 [(0, .ref om), (1, .int (bI true))] := hl
  have hi5 : ∀ w ∈ u_ws RX5 TX5 25, w ∈ wsX5_isFound := by decide +kernel
  have f45 := hts (.fieldLink RX5 45 "SweptBoxesModel" "ups" "[J") (by decide +kernel)
  have f48 := hts (.fieldLink RX5 48 "SweptBoxesModel" "lows" "[J") (by decide +kernel)
  have f135 := hts (.fieldLink RX5 135 "SweptBoxesModel" "moments" "I") (by decide +kernel)
  have f145 := hts (.fieldLink RX5 145 "SweptBoxesModel" "up" "J") (by decide +kernel)
  have f148 := hts (.fieldLink RX5 148 "SweptBoxesModel" "low" "J") (by decide +kernel)
  refine lv_aload_n hx hb dX5_isFound_0 rfl (lv_at hl 0 rfl) ?_
  refine kmVv (q0 := 0) (ci := 5) (As := []) (rest := []) (WC := [(om, .inr (5, [.int (nI cd), .int (nI ns), .ref apx, .ref apy, .ref act, .int (nI nb), .ref asd, .ref amv, .ref asl, .ref apl, .ref asw, .int (nI nw), .ref aor, .int (nI nc), .ref aon, .ref atw, .long mx, .long my, .ref aup, .ref alw, .int (nI nm), .long up, .long lo, .long rx, .long ry])), (aon, .inl (cJ, 4, .inr (.inl fon))), (atw, .inl (cJ, 4, .inr (.inl ftw))), (aup, .inl (cJ, 12, .inr (.inl fup))), (alw, .inl (cJ, 12, .inr (.inl flw)))]) (W2 := [(om, .inr (5, [.int (nI cd), .int (nI ns), .ref apx, .ref apy, .ref act, .int (nI nb), .ref asd, .ref amv, .ref asl, .ref apl, .ref asw, .int (nI nw), .ref aor, .int (nI nc), .ref aon, .ref atw, .long mx, .long my, .ref aup, .ref alw, .int (nI ((mMo fon ftw mx my (fup, flw, 0)).2.2)), .long up, .long lo, .long rx, .long ry])), (aon, .inl (cJ, 4, .inr (.inl fon))), (atw, .inl (cJ, 4, .inr (.inl ftw))), (aup, .inl (cJ, 12, .inr (.inl (mMo fon ftw mx my (fup, flw, 0)).1))), (alw, .inl (cJ, 12, .inr (.inl (mMo fon ftw mx my (fup, flw, 0)).2.1)))]) (WR := []) (WN := [(om, .inr (5, [.int (nI cd), .int (nI ns), .ref apx, .ref apy, .ref act, .int (nI nb), .ref asd, .ref amv, .ref asl, .ref apl, .ref asw, .int (nI nw), .ref aor, .int (nI nc), .ref aon, .ref atw, .long mx, .long my, .ref aup, .ref alw, .int (nI ((mMo fon ftw mx my (fup, flw, 0)).2.2)), .long up, .long lo, .long rx, .long ry])), (aon, .inl (cJ, 4, .inr (.inl fon))), (atw, .inl (cJ, 4, .inr (.inl ftw))), (aup, .inl (cJ, 12, .inr (.inl (mMo fon ftw mx my (fup, flw, 0)).1))), (alw, .inl (cJ, 12, .inr (.inl (mMo fon ftw mx my (fup, flw, 0)).2.1)))]) (tyC := [(cJ, .long), (cI, .int), (cZ, .boolean)]) (isC := [0, 1, 2, 3, 4]) (isR := []) (isN := [0, 1, 2, 3, 4]) (its := [0, 1, 2]) ⟨hx, hb, hml, hown, hts⟩ (tX5_findMoments l dC dI cJ cI cZ om cd ns apx apy act nb asd amv asl apl asw nw aor nc aon atw aup alw nm mx my up lo rx ry fon ftw fup flw) (cwV 0 hts gX5_isFound_X5_findMoments rfl rfl rfl (by decide +kernel) ⟨Nat.le_of_ble_eq_true rfl, Nat.le_of_ble_eq_true rfl⟩) hP hD hA hS hK rfl (by decide) rfl (by decide) (by decide) rfl (by decide) rfl rfl rfl rfl rfl hl.1 (Nat.le_of_ble_eq_true rfl) dX5_isFound_1 ⟨Nat.le_of_ble_eq_true rfl, Nat.le_of_ble_eq_true rfl⟩ (fun H locs hP hD hS => ?_)
  have hmo := mMo_le fon ftw mx my fup flw
  have hgood := mMo_good fon ftw mx my fup flw
  refine lv_aload_n hx hb dX5_isFound_4 rfl (lv_at hl 0 rfl) ?_
  refine lv_ldc2 hx hb hown (hts (.constantLong RX5 154 (-1)) (by decide +kernel)) dX5_isFound_5 ?_
  refine va_put (D := (dC, dI)) (ci := 5) (v := .long (-1)) (ty := .long) (C := RX5) (T := TX5) (N := 25) hx hb hts hi5 tyX5 tyX5_ok nmX5 hown hK hP hD hS 0 rfl rfl 21 (by decide) f145 (fun _ h9 => h9) rfl (by decide +kernel) rfl rfl (Nat.le_of_ble_eq_true rfl) dX5_isFound_8 (fun H locs hP hD hS => ?_)
  have hP : va_P (dC, dI) vwCl [(om, .inr (5, [.int (nI cd), .int (nI ns), .ref apx, .ref apy, .ref act, .int (nI nb), .ref asd, .ref amv, .ref asl, .ref apl, .ref asw, .int (nI nw), .ref aor, .int (nI nc), .ref aon, .ref atw, .long mx, .long my, .ref aup, .ref alw, .int (nI ((mMo fon ftw mx my (fup, flw, 0)).2.2)), .long (-1), .long lo, .long rx, .long ry])), (aon, .inl (cJ, 4, .inr (.inl fon))), (atw, .inl (cJ, 4, .inr (.inl ftw))), (aup, .inl (cJ, 12, .inr (.inl (mMo fon ftw mx my (fup, flw, 0)).1))), (alw, .inl (cJ, 12, .inr (.inl (mMo fon ftw mx my (fup, flw, 0)).2.1)))] H := hP
  have hD : va_D A [(om, .inr (5, [.int (nI cd), .int (nI ns), .ref apx, .ref apy, .ref act, .int (nI nb), .ref asd, .ref amv, .ref asl, .ref apl, .ref asw, .int (nI nw), .ref aor, .int (nI nc), .ref aon, .ref atw, .long mx, .long my, .ref aup, .ref alw, .int (nI ((mMo fon ftw mx my (fup, flw, 0)).2.2)), .long (-1), .long lo, .long rx, .long ry])), (aon, .inl (cJ, 4, .inr (.inl fon))), (atw, .inl (cJ, 4, .inr (.inl ftw))), (aup, .inl (cJ, 12, .inr (.inl (mMo fon ftw mx my (fup, flw, 0)).1))), (alw, .inl (cJ, 12, .inr (.inl (mMo fon ftw mx my (fup, flw, 0)).2.1)))] := hD
  refine lv_aload_n hx hb dX5_isFound_11 rfl (lv_at hl 0 rfl) ?_
  refine lv_lconst (v := 1) hx hb dX5_isFound_12 (by decide) ?_
  refine va_put (D := (dC, dI)) (ci := 5) (v := .long 1) (ty := .long) (C := RX5) (T := TX5) (N := 25) hx hb hts hi5 tyX5 tyX5_ok nmX5 hown hK hP hD hS 0 rfl rfl 22 (by decide) f148 (fun _ h9 => h9) rfl (by decide +kernel) rfl rfl (Nat.le_of_ble_eq_true rfl) dX5_isFound_13 (fun H locs hP hD hS => ?_)
  have hP : va_P (dC, dI) vwCl [(om, .inr (5, [.int (nI cd), .int (nI ns), .ref apx, .ref apy, .ref act, .int (nI nb), .ref asd, .ref amv, .ref asl, .ref apl, .ref asw, .int (nI nw), .ref aor, .int (nI nc), .ref aon, .ref atw, .long mx, .long my, .ref aup, .ref alw, .int (nI ((mMo fon ftw mx my (fup, flw, 0)).2.2)), .long (-1), .long 1, .long rx, .long ry])), (aon, .inl (cJ, 4, .inr (.inl fon))), (atw, .inl (cJ, 4, .inr (.inl ftw))), (aup, .inl (cJ, 12, .inr (.inl (mMo fon ftw mx my (fup, flw, 0)).1))), (alw, .inl (cJ, 12, .inr (.inl (mMo fon ftw mx my (fup, flw, 0)).2.1)))] H := hP
  have hD : va_D A [(om, .inr (5, [.int (nI cd), .int (nI ns), .ref apx, .ref apy, .ref act, .int (nI nb), .ref asd, .ref amv, .ref asl, .ref apl, .ref asw, .int (nI nw), .ref aor, .int (nI nc), .ref aon, .ref atw, .long mx, .long my, .ref aup, .ref alw, .int (nI ((mMo fon ftw mx my (fup, flw, 0)).2.2)), .long (-1), .long 1, .long rx, .long ry])), (aon, .inl (cJ, 4, .inr (.inl fon))), (atw, .inl (cJ, 4, .inr (.inl ftw))), (aup, .inl (cJ, 12, .inr (.inl (mMo fon ftw mx my (fup, flw, 0)).1))), (alw, .inl (cJ, 12, .inr (.inl (mMo fon ftw mx my (fup, flw, 0)).2.1)))] := hD
  refine lv_iconst (v := (nI 0)) hx hb dX5_isFound_16 (by decide) ?_
  refine lv_istore_n (lv' := [(2, .int (nI 0)), (0, .ref om), (1, .int (bI true))]) hx hb dX5_isFound_17 rfl hl (by decide) rfl (fun ls hl => ?_)
  refine kLoop (σ := Nat) (fun xz H locs ls => match xz with | k => (va_P (dC, dI) vwCl [(om, .inr (5, [.int (nI cd), .int (nI ns), .ref apx, .ref apy, .ref act, .int (nI nb), .ref asd, .ref amv, .ref asl, .ref apl, .ref asw, .int (nI nw), .ref aor, .int (nI nc), .ref aon, .ref atw, .long mx, .long my, .ref aup, .ref alw, .int (nI ((mMo fon ftw mx my (fup, flw, 0)).2.2)), .long (-1), .long 1, .long rx, .long ry])), (aon, .inl (cJ, 4, .inr (.inl fon))), (atw, .inl (cJ, 4, .inr (.inl ftw))), (aup, .inl (cJ, 12, .inr (.inl (mMo fon ftw mx my (fup, flw, 0)).1))), (alw, .inl (cJ, 12, .inr (.inl (mMo fon ftw mx my (fup, flw, 0)).2.1)))] H) ∧ (va_D A [(om, .inr (5, [.int (nI cd), .int (nI ns), .ref apx, .ref apy, .ref act, .int (nI nb), .ref asd, .ref amv, .ref asl, .ref apl, .ref asw, .int (nI nw), .ref aor, .int (nI nc), .ref aon, .ref atw, .long mx, .long my, .ref aup, .ref alw, .int (nI ((mMo fon ftw mx my (fup, flw, 0)).2.2)), .long (-1), .long 1, .long rx, .long ry])), (aon, .inl (cJ, 4, .inr (.inl fon))), (atw, .inl (cJ, 4, .inr (.inl ftw))), (aup, .inl (cJ, 12, .inr (.inl (mMo fon ftw mx my (fup, flw, 0)).1))), (alw, .inl (cJ, 12, .inr (.inl (mMo fon ftw mx my (fup, flw, 0)).2.1)))]) ∧ (va_S A s.heap H locs) ∧ (lv_has ls 5 [(0, .ref om), (1, .int (bI true)), (2, .int (nI k))]) ∧ (k ≤ (mMo fon ftw mx my (fup, flw, 0)).2.2 ∧ ∀ j, j < k → ¬ (mHitI fon ftw mx my (mMo fon ftw mx my (fup, flw, 0))) j)) (fun xz => match xz with | k => (mMo fon ftw mx my (fup, flw, 0)).2.2 - k) ?_ (0) ?_
  · rintro k H locs ls hI ih18
    obtain ⟨hP, hD, hS, hl, hi18_⟩ := hI
    obtain ⟨hk, hno⟩ := hi18_
    refine lv_iload_n hx hb dX5_isFound_18 rfl (lv_at hl 2 rfl) ?_
    refine lv_aload_n hx hb dX5_isFound_19 rfl (lv_at hl 0 rfl) ?_
    refine va_get (D := (dC, dI)) (ci := 5) (v := .int (nI ((mMo fon ftw mx my (fup, flw, 0)).2.2))) (C := RX5) (T := TX5) (N := 25) hx hb hts hi5 hown hK hP 0 rfl rfl 20 (by decide) f135 (fun _ h9 => h9) rfl dX5_isFound_20 ?_
    refine lv_icmp_ge (tgt := 186) hx hb dX5_isFound_23 (by decide) (fun c23 => ?_) (fun c23 => ?_)
    · rw [nI_leI (by omega) (by omega)] at c23
      refine lv_iconst (v := (nI 0)) hx hb dX5_isFound_186 (by decide) ?_
      have hq0 : (mRu (mHitI fon ftw mx my (mMo fon ftw mx my (fup, flw, 0))) (mMo fon ftw mx my (fup, flw, 0))) = (-1) := (by first | exact mRu_n (fun j hj => hno j (by omega)) | exact mRl_n (fun j hj => hno j (by omega)))
      have hq1 : (mRl (mHitI fon ftw mx my (mMo fon ftw mx my (fup, flw, 0))) (mMo fon ftw mx my (fup, flw, 0))) = 1 := (by first | exact mRu_n (fun j hj => hno j (by omega)) | exact mRl_n (fun j hj => hno j (by omega)))
      have hw : ([(om, .inr (5, [.int (nI cd), .int (nI ns), .ref apx, .ref apy, .ref act, .int (nI nb), .ref asd, .ref amv, .ref asl, .ref apl, .ref asw, .int (nI nw), .ref aor, .int (nI nc), .ref aon, .ref atw, .long mx, .long my, .ref aup, .ref alw, .int (nI ((mMo fon ftw mx my (fup, flw, 0)).2.2)), .long (-1), .long 1, .long rx, .long ry])), (aon, .inl (cJ, 4, .inr (.inl fon))), (atw, .inl (cJ, 4, .inr (.inl ftw))), (aup, .inl (cJ, 12, .inr (.inl (mMo fon ftw mx my (fup, flw, 0)).1))), (alw, .inl (cJ, 12, .inr (.inl (mMo fon ftw mx my (fup, flw, 0)).2.1)))] : va_W) = [(om, .inr (5, [.int (nI cd), .int (nI ns), .ref apx, .ref apy, .ref act, .int (nI nb), .ref asd, .ref amv, .ref asl, .ref apl, .ref asw, .int (nI nw), .ref aor, .int (nI nc), .ref aon, .ref atw, .long mx, .long my, .ref aup, .ref alw, .int (nI ((mMo fon ftw mx my (fup, flw, 0)).2.2)), .long (mRu (mHitI fon ftw mx my (mMo fon ftw mx my (fup, flw, 0))) (mMo fon ftw mx my (fup, flw, 0))), .long (mRl (mHitI fon ftw mx my (mMo fon ftw mx my (fup, flw, 0))) (mMo fon ftw mx my (fup, flw, 0))), .long rx, .long ry])), (aon, .inl (cJ, 4, .inr (.inl fon))), (atw, .inl (cJ, 4, .inr (.inl ftw))), (aup, .inl (cJ, 12, .inr (.inl (mMo fon ftw mx my (fup, flw, 0)).1))), (alw, .inl (cJ, 12, .inr (.inl (mMo fon ftw mx my (fup, flw, 0)).2.1)))] := by rw [hq0, hq1]
      rw [hw] at hP hD
      exact kEz hx hb hr hlocks hP hK hD hS dX5_isFound_187 (kp0 (fun ⟨j, h1, h2⟩ => hno j (by omega) h2))
    · rw [nI_leI (by omega) (by omega), Nat.not_le] at c23
      refine lv_aload_n hx hb dX5_isFound_26 rfl (lv_at hl 0 rfl) ?_
      refine lv_aload_n hx hb dX5_isFound_27 rfl (lv_at hl 0 rfl) ?_
      refine va_get (D := (dC, dI)) (ci := 5) (v := .ref aup) (C := RX5) (T := TX5) (N := 25) hx hb hts hi5 hown hK hP 0 rfl rfl 18 (by decide) f45 (fun _ h9 => h9) rfl dX5_isFound_28 ?_
      refine lv_iload_n hx hb dX5_isFound_31 rfl (lv_at hl 2 rfl) ?_
      refine va_lald hx hb hK hP 3 0 rfl rfl (vp_in_nI (show k < 12 by omega) (by omega)) dX5_isFound_32 ?_
      rw [show (nI k).toNatClampNeg = k from nI_clamp (show k < 2 ^ 31 by omega)]
      refine lv_aload_n hx hb dX5_isFound_33 rfl (lv_at hl 0 rfl) ?_
      refine va_get (D := (dC, dI)) (ci := 5) (v := .ref alw) (C := RX5) (T := TX5) (N := 25) hx hb hts hi5 hown hK hP 0 rfl rfl 19 (by decide) f48 (fun _ h9 => h9) rfl dX5_isFound_34 ?_
      refine lv_iload_n hx hb dX5_isFound_37 rfl (lv_at hl 2 rfl) ?_
      refine va_lald hx hb hK hP 4 0 rfl rfl (vp_in_nI (show k < 12 by omega) (by omega)) dX5_isFound_38 ?_
      rw [show (nI k).toNatClampNeg = k from nI_clamp (show k < 2 ^ 31 by omega)]
      refine lv_iload_n hx hb dX5_isFound_39 rfl (lv_at hl 1 rfl) ?_
      refine kpVi (q0 := 0) (ci := 5) (As := [.long ((mMo fon ftw mx my (fup, flw, 0)).1 k), .long ((mMo fon ftw mx my (fup, flw, 0)).2.1 k), .int (bI true)]) (rest := []) (WC := [(om, .inr (5, [.int (nI cd), .int (nI ns), .ref apx, .ref apy, .ref act, .int (nI nb), .ref asd, .ref amv, .ref asl, .ref apl, .ref asw, .int (nI nw), .ref aor, .int (nI nc), .ref aon, .ref atw, .long mx, .long my, .ref aup, .ref alw, .int (nI ((mMo fon ftw mx my (fup, flw, 0)).2.2)), .long (-1), .long 1, .long rx, .long ry])), (aon, .inl (cJ, 4, .inr (.inl fon))), (atw, .inl (cJ, 4, .inr (.inl ftw)))]) (tyC := [(cJ, .long), (cI, .int), (cZ, .boolean)]) ⟨hx, hb, hml, hown, hts⟩ (tX5_isAt_t l dC dI cJ cI cZ om cd ns apx apy act nb asd amv asl apl asw nw aor nc aon atw aup alw ((mMo fon ftw mx my (fup, flw, 0)).2.2) mx my (-1) 1 rx ry fon ftw ((mMo fon ftw mx my (fup, flw, 0)).1 k) ((mMo fon ftw mx my (fup, flw, 0)).2.1 k)) (cwV 3 hts gX5_isFound_X5_isAt rfl rfl rfl (by decide +kernel) ⟨Nat.le_of_ble_eq_true rfl, Nat.le_of_ble_eq_true rfl⟩) (kPick (isC := [0, 1, 2]) hP rfl) (hK.sub [0, 1, 2] rfl) rfl rfl rfl rfl hl.1 (Nat.le_of_ble_eq_true rfl) dX5_isFound_40 ⟨Nat.le_of_ble_eq_true rfl, Nat.le_of_ble_eq_true rfl⟩ ?_
      refine lv_istore_n (lv' := [(3, .int (bI (pB (mComI (fon 0) (fon 2) (ftw 0) (ftw 2) mx ((mMo fon ftw mx my (fup, flw, 0)).1 k) ((mMo fon ftw mx my (fup, flw, 0)).2.1 k) ∧ mComI (fon 1) (fon 3) (ftw 1) (ftw 3) my ((mMo fon ftw mx my (fup, flw, 0)).1 k) ((mMo fon ftw mx my (fup, flw, 0)).2.1 k))))), (0, .ref om), (1, .int (bI true)), (2, .int (nI k))]) hx hb dX5_isFound_43 rfl hl (by decide) rfl (fun ls hl => ?_)
      refine lv_iload_n hx hb dX5_isFound_44 rfl (lv_at hl 3 rfl) ?_
      refine lv_iconst (v := (nI 1)) hx hb dX5_isFound_45 (by decide) ?_
      refine lv_iadd hx hb dX5_isFound_46 ?_
      rw [show (nI k) + (nI 1) = (nI (k + 1)) from nI_add k 1]
      refine lv_aload_n hx hb dX5_isFound_47 rfl (lv_at hl 1 rfl) ?_
      refine va_get (D := (dC, dI)) (ci := 5) (v := .int (nI ((mMo fon ftw mx my (fup, flw, 0)).2.2))) (C := RX5) (T := TX5) (N := 25) hx hb hts hi5 hown hK hP 0 rfl rfl 20 (by decide) f135 (fun _ h9 => h9) rfl dX5_isFound_48 ?_
      refine lv_icmp_ge (tgt := 150) hx hb dX5_isFound_51 (by decide) (fun c51 => ?_) (fun c51 => ?_)
      · rw [nI_leI (by omega) (by omega)] at c51
        refine lv_iconst (v := (nI 0)) hx hb dX5_isFound_150 (by decide) ?_
        refine lv_istore (lv' := [(4, .int (nI 0)), (3, .int (bI (pB (mComI (fon 0) (fon 2) (ftw 0) (ftw 2) mx ((mMo fon ftw mx my (fup, flw, 0)).1 k) ((mMo fon ftw mx my (fup, flw, 0)).2.1 k) ∧ mComI (fon 1) (fon 3) (ftw 1) (ftw 3) my ((mMo fon ftw mx my (fup, flw, 0)).1 k) ((mMo fon ftw mx my (fup, flw, 0)).2.1 k))))), (0, .ref om), (1, .int (bI true)), (2, .int (nI k))]) hx hb dX5_isFound_151 hl (by decide) rfl (fun ls hl => ?_)
        refine lv_iload_n hx hb dX5_isFound_153 rfl (lv_at hl 1 rfl) ?_
        refine lv_if_ne (tgt := 162) hx hb dX5_isFound_154 (by decide) (fun c154 => ?_) (fun c154 => ?_)
        · replace c154 := bI_n c154; replace c154 := pB_iff.mp c154
          refine lv_aload_n hx hb dX5_isFound_162 rfl (lv_at hl 2 rfl) ?_
          refine lv_aload_n hx hb dX5_isFound_163 rfl (lv_at hl 2 rfl) ?_
          refine va_get (D := (dC, dI)) (ci := 5) (v := .ref aup) (C := RX5) (T := TX5) (N := 25) hx hb hts hi5 hown hK hP 0 rfl rfl 18 (by decide) f45 (fun _ h9 => h9) rfl dX5_isFound_164 ?_
          refine lv_iload_n hx hb dX5_isFound_167 rfl (lv_at hl 4 rfl) ?_
          refine va_lald hx hb hK hP 3 0 rfl rfl (vp_in_nI (show k < 12 by omega) (by omega)) dX5_isFound_168 ?_
          rw [show (nI k).toNatClampNeg = k from nI_clamp (show k < 2 ^ 31 by omega)]
          refine lv_aload_n hx hb dX5_isFound_169 rfl (lv_at hl 2 rfl) ?_
          refine va_get (D := (dC, dI)) (ci := 5) (v := .ref alw) (C := RX5) (T := TX5) (N := 25) hx hb hts hi5 hown hK hP 0 rfl rfl 19 (by decide) f48 (fun _ h9 => h9) rfl dX5_isFound_170 ?_
          refine lv_iload_n hx hb dX5_isFound_173 rfl (lv_at hl 4 rfl) ?_
          refine va_lald hx hb hK hP 4 0 rfl rfl (vp_in_nI (show k < 12 by omega) (by omega)) dX5_isFound_174 ?_
          rw [show (nI k).toNatClampNeg = k from nI_clamp (show k < 2 ^ 31 by omega)]
          obtain ⟨U, hU, eU⟩ := pk_lOf (Int64.not_lt.mpr (hgood k c23).1)
          obtain ⟨L, hL, eL⟩ := pk_lOf (Int64.not_lt.mpr (Int64.le_of_lt (hgood k c23).2))
          have hL0 : 0 < L := Nat.pos_of_ne_zero (fun h => absurd (hgood k c23).2 (by rw [eL, h]; decide))
          rw [show (mMo fon ftw mx my (fup, flw, 0)).1 k = lN U from eU, show (mMo fon ftw mx my (fup, flw, 0)).2.1 k = lN L from eL]
          refine kmVv (q0 := 0) (ci := 5) (As := [.long (lN U), .long (lN L)]) (rest := []) (WC := [(om, .inr (5, [.int (nI cd), .int (nI ns), .ref apx, .ref apy, .ref act, .int (nI nb), .ref asd, .ref amv, .ref asl, .ref apl, .ref asw, .int (nI nw), .ref aor, .int (nI nc), .ref aon, .ref atw, .long mx, .long my, .ref aup, .ref alw, .int (nI ((mMo fon ftw mx my (fup, flw, 0)).2.2)), .long (-1), .long 1, .long rx, .long ry]))]) (W2 := [(om, .inr (5, [.int (nI cd), .int (nI ns), .ref apx, .ref apy, .ref act, .int (nI nb), .ref asd, .ref amv, .ref asl, .ref apl, .ref asw, .int (nI nw), .ref aor, .int (nI nc), .ref aon, .ref atw, .long mx, .long my, .ref aup, .ref alw, .int (nI ((mMo fon ftw mx my (fup, flw, 0)).2.2)), .long (lN (U / Nat.gcd U L)), .long (lN (L / Nat.gcd U L)), .long rx, .long ry]))]) (WR := [(aon, .inl (cJ, 4, .inr (.inl fon))), (atw, .inl (cJ, 4, .inr (.inl ftw))), (aup, .inl (cJ, 12, .inr (.inl (mMo fon ftw mx my (fup, flw, 0)).1))), (alw, .inl (cJ, 12, .inr (.inl (mMo fon ftw mx my (fup, flw, 0)).2.1)))]) (WN := [(om, .inr (5, [.int (nI cd), .int (nI ns), .ref apx, .ref apy, .ref act, .int (nI nb), .ref asd, .ref amv, .ref asl, .ref apl, .ref asw, .int (nI nw), .ref aor, .int (nI nc), .ref aon, .ref atw, .long mx, .long my, .ref aup, .ref alw, .int (nI ((mMo fon ftw mx my (fup, flw, 0)).2.2)), .long (lN (U / Nat.gcd U L)), .long (lN (L / Nat.gcd U L)), .long rx, .long ry])), (aon, .inl (cJ, 4, .inr (.inl fon))), (atw, .inl (cJ, 4, .inr (.inl ftw))), (aup, .inl (cJ, 12, .inr (.inl (mMo fon ftw mx my (fup, flw, 0)).1))), (alw, .inl (cJ, 12, .inr (.inl (mMo fon ftw mx my (fup, flw, 0)).2.1)))]) (tyC := [(cJ, .long), (cI, .int), (cZ, .boolean)]) (isC := [0]) (isR := [1, 2, 3, 4]) (isN := [4, 0, 1, 2, 3]) (its := [0, 1, 2]) ⟨hx, hb, hml, hown, hts⟩ (tX5_tell l dC dI cJ cI cZ om cd ns apx apy act nb asd amv asl apl asw nw aor nc aon atw aup alw ((mMo fon ftw mx my (fup, flw, 0)).2.2) mx my (-1) 1 rx ry U L (by omega) (by omega) (by omega)) (cwV 2 hts gX5_isFound_X5_tell rfl rfl rfl (by decide +kernel) ⟨Nat.le_of_ble_eq_true rfl, Nat.le_of_ble_eq_true rfl⟩) hP hD hA hS hK rfl (by decide) rfl (by decide) (by decide) rfl (by decide) rfl rfl rfl rfl rfl hl.1 (Nat.le_of_ble_eq_true rfl) dX5_isFound_175 ⟨Nat.le_of_ble_eq_true rfl, Nat.le_of_ble_eq_true rfl⟩ (fun H locs hP hD hS => ?_)
          refine lv_iconst (v := (nI 1)) hx hb dX5_isFound_178 (by decide) ?_
          have hhit : (mHitI fon ftw mx my (mMo fon ftw mx my (fup, flw, 0))) k := by first | exact Or.inl c154 | exact Or.inr ⟨c51, c85, c143⟩
          have hq0 : (mRu (mHitI fon ftw mx my (mMo fon ftw mx my (fup, flw, 0))) (mMo fon ftw mx my (fup, flw, 0))) = (lN (U / Nat.gcd U L)) := (by first | (rw [mRu_s (q := (mMo fon ftw mx my (fup, flw, 0))) c23 hhit hno, show (mMo fon ftw mx my (fup, flw, 0)).1 k = lN U from eU, show (mMo fon ftw mx my (fup, flw, 0)).2.1 k = lN L from eL]; exact mTu_N hU hL) | (rw [mRl_s (q := (mMo fon ftw mx my (fup, flw, 0))) c23 hhit hno, show (mMo fon ftw mx my (fup, flw, 0)).1 k = lN U from eU, show (mMo fon ftw mx my (fup, flw, 0)).2.1 k = lN L from eL]; exact mTl_N hU hL))
          have hq1 : (mRl (mHitI fon ftw mx my (mMo fon ftw mx my (fup, flw, 0))) (mMo fon ftw mx my (fup, flw, 0))) = (lN (L / Nat.gcd U L)) := (by first | (rw [mRu_s (q := (mMo fon ftw mx my (fup, flw, 0))) c23 hhit hno, show (mMo fon ftw mx my (fup, flw, 0)).1 k = lN U from eU, show (mMo fon ftw mx my (fup, flw, 0)).2.1 k = lN L from eL]; exact mTu_N hU hL) | (rw [mRl_s (q := (mMo fon ftw mx my (fup, flw, 0))) c23 hhit hno, show (mMo fon ftw mx my (fup, flw, 0)).1 k = lN U from eU, show (mMo fon ftw mx my (fup, flw, 0)).2.1 k = lN L from eL]; exact mTl_N hU hL))
          have hw : ([(om, .inr (5, [.int (nI cd), .int (nI ns), .ref apx, .ref apy, .ref act, .int (nI nb), .ref asd, .ref amv, .ref asl, .ref apl, .ref asw, .int (nI nw), .ref aor, .int (nI nc), .ref aon, .ref atw, .long mx, .long my, .ref aup, .ref alw, .int (nI ((mMo fon ftw mx my (fup, flw, 0)).2.2)), .long (lN (U / Nat.gcd U L)), .long (lN (L / Nat.gcd U L)), .long rx, .long ry])), (aon, .inl (cJ, 4, .inr (.inl fon))), (atw, .inl (cJ, 4, .inr (.inl ftw))), (aup, .inl (cJ, 12, .inr (.inl (mMo fon ftw mx my (fup, flw, 0)).1))), (alw, .inl (cJ, 12, .inr (.inl (mMo fon ftw mx my (fup, flw, 0)).2.1)))] : va_W) = [(om, .inr (5, [.int (nI cd), .int (nI ns), .ref apx, .ref apy, .ref act, .int (nI nb), .ref asd, .ref amv, .ref asl, .ref apl, .ref asw, .int (nI nw), .ref aor, .int (nI nc), .ref aon, .ref atw, .long mx, .long my, .ref aup, .ref alw, .int (nI ((mMo fon ftw mx my (fup, flw, 0)).2.2)), .long (mRu (mHitI fon ftw mx my (mMo fon ftw mx my (fup, flw, 0))) (mMo fon ftw mx my (fup, flw, 0))), .long (mRl (mHitI fon ftw mx my (mMo fon ftw mx my (fup, flw, 0))) (mMo fon ftw mx my (fup, flw, 0))), .long rx, .long ry])), (aon, .inl (cJ, 4, .inr (.inl fon))), (atw, .inl (cJ, 4, .inr (.inl ftw))), (aup, .inl (cJ, 12, .inr (.inl (mMo fon ftw mx my (fup, flw, 0)).1))), (alw, .inl (cJ, 12, .inr (.inl (mMo fon ftw mx my (fup, flw, 0)).2.1)))] := by rw [hq0, hq1]
          rw [hw] at hP hD
          exact kEz hx hb hr hlocks hP hK hD hS dX5_isFound_179 (kp1 ⟨k, c23, hhit⟩)
        · replace c154 := bI_0 c154; replace c154 := pB_not c154
          refine lv_iload hx hb dX5_isFound_157 (lv_at hl 0 rfl) ?_
          refine lv_if_eq (tgt := 180) hx hb dX5_isFound_159 (by decide) (fun c159 => ?_) (fun c159 => ?_)
          · rw [← nI_0, nI_eq (by omega) (by omega)] at c159
            refine lv_iinc (v := (nI (k + 1))) (lv' := [(2, .int (nI (k + 1))), (4, .int (nI 0)), (3, .int (bI (pB (mComI (fon 0) (fon 2) (ftw 0) (ftw 2) mx ((mMo fon ftw mx my (fup, flw, 0)).1 k) ((mMo fon ftw mx my (fup, flw, 0)).2.1 k) ∧ mComI (fon 1) (fon 3) (ftw 1) (ftw 3) my ((mMo fon ftw mx my (fup, flw, 0)).1 k) ((mMo fon ftw mx my (fup, flw, 0)).2.1 k))))), (0, .ref om), (1, .int (bI true))]) hx hb dX5_isFound_180 hl (k := 4) rfl (show (nI k) + Int32.ofInt 1 = nI (k + 1) from nI_add k 1) (by decide) rfl (fun ls hl => ?_)
            refine lv_goto (tgt := 18) hx hb dX5_isFound_183 (by decide) ?_
            exact ih18 (k + 1) _ _ _ ⟨hP, hD, hS, lv_sub hl [3, 4, 0] rfl, ⟨by omega, fun j hj => by rcases Nat.lt_or_ge j k with h | h; exact hno j h; rw [show j = k by omega]; exact (fun z => z.elim c154 (fun w => by first | exact absurd w.1 (by omega) | exact w.2.1 c85 | exact c143 w.2.2))⟩⟩ (by simp only []; omega)
          · skip
            exact absurd c159 (by decide)
      · rw [nI_leI (by omega) (by omega), Nat.not_le] at c51
        refine lv_aload_n hx hb dX5_isFound_54 rfl (lv_at hl 1 rfl) ?_
        refine va_get (D := (dC, dI)) (ci := 5) (v := .ref aup) (C := RX5) (T := TX5) (N := 25) hx hb hts hi5 hown hK hP 0 rfl rfl 18 (by decide) f45 (fun _ h9 => h9) rfl dX5_isFound_55 ?_
        refine lv_iload_n hx hb dX5_isFound_58 rfl (lv_at hl 3 rfl) ?_
        refine va_lald hx hb hK hP 3 0 rfl rfl (vp_in_nI (show k < 12 by omega) (by omega)) dX5_isFound_59 ?_
        rw [show (nI k).toNatClampNeg = k from nI_clamp (show k < 2 ^ 31 by omega)]
        refine lv_aload_n hx hb dX5_isFound_60 rfl (lv_at hl 1 rfl) ?_
        refine va_get (D := (dC, dI)) (ci := 5) (v := .ref alw) (C := RX5) (T := TX5) (N := 25) hx hb hts hi5 hown hK hP 0 rfl rfl 19 (by decide) f48 (fun _ h9 => h9) rfl dX5_isFound_61 ?_
        refine lv_iload_n hx hb dX5_isFound_64 rfl (lv_at hl 3 rfl) ?_
        refine lv_iconst (v := (nI 1)) hx hb dX5_isFound_65 (by decide) ?_
        refine lv_iadd hx hb dX5_isFound_66 ?_
        rw [show (nI k) + (nI 1) = (nI (k + 1)) from nI_add k 1]
        refine va_lald hx hb hK hP 4 0 rfl rfl (vp_in_nI (show (k + 1) < 12 by omega) (by omega)) dX5_isFound_67 ?_
        rw [show (nI (k + 1)).toNatClampNeg = (k + 1) from nI_clamp (show (k + 1) < 2 ^ 31 by omega)]
        refine lv_lmul hx hb dX5_isFound_68 ?_
        refine lv_aload_n hx hb dX5_isFound_69 rfl (lv_at hl 1 rfl) ?_
        refine va_get (D := (dC, dI)) (ci := 5) (v := .ref aup) (C := RX5) (T := TX5) (N := 25) hx hb hts hi5 hown hK hP 0 rfl rfl 18 (by decide) f45 (fun _ h9 => h9) rfl dX5_isFound_70 ?_
        refine lv_iload_n hx hb dX5_isFound_73 rfl (lv_at hl 3 rfl) ?_
        refine lv_iconst (v := (nI 1)) hx hb dX5_isFound_74 (by decide) ?_
        refine lv_iadd hx hb dX5_isFound_75 ?_
        rw [show (nI k) + (nI 1) = (nI (k + 1)) from nI_add k 1]
        refine va_lald hx hb hK hP 3 0 rfl rfl (vp_in_nI (show (k + 1) < 12 by omega) (by omega)) dX5_isFound_76 ?_
        rw [show (nI (k + 1)).toNatClampNeg = (k + 1) from nI_clamp (show (k + 1) < 2 ^ 31 by omega)]
        refine lv_aload_n hx hb dX5_isFound_77 rfl (lv_at hl 1 rfl) ?_
        refine va_get (D := (dC, dI)) (ci := 5) (v := .ref alw) (C := RX5) (T := TX5) (N := 25) hx hb hts hi5 hown hK hP 0 rfl rfl 19 (by decide) f48 (fun _ h9 => h9) rfl dX5_isFound_78 ?_
        refine lv_iload_n hx hb dX5_isFound_81 rfl (lv_at hl 3 rfl) ?_
        refine va_lald hx hb hK hP 4 0 rfl rfl (vp_in_nI (show k < 12 by omega) (by omega)) dX5_isFound_82 ?_
        rw [show (nI k).toNatClampNeg = k from nI_clamp (show k < 2 ^ 31 by omega)]
        refine lv_lmul hx hb dX5_isFound_83 ?_
        refine W.lcmp hx hb dX5_isFound_84 ?_
        refine lv_if_eq (tgt := 150) hx hb dX5_isFound_85 (by decide) (fun c85 => ?_) (fun c85 => ?_)
        · rw [lg_cmp_eq] at c85
          refine lv_iconst (v := (nI 0)) hx hb dX5_isFound_150 (by decide) ?_
          refine lv_istore (lv' := [(4, .int (nI 0)), (3, .int (bI (pB (mComI (fon 0) (fon 2) (ftw 0) (ftw 2) mx ((mMo fon ftw mx my (fup, flw, 0)).1 k) ((mMo fon ftw mx my (fup, flw, 0)).2.1 k) ∧ mComI (fon 1) (fon 3) (ftw 1) (ftw 3) my ((mMo fon ftw mx my (fup, flw, 0)).1 k) ((mMo fon ftw mx my (fup, flw, 0)).2.1 k))))), (0, .ref om), (1, .int (bI true)), (2, .int (nI k))]) hx hb dX5_isFound_151 hl (by decide) rfl (fun ls hl => ?_)
          refine lv_iload_n hx hb dX5_isFound_153 rfl (lv_at hl 1 rfl) ?_
          refine lv_if_ne (tgt := 162) hx hb dX5_isFound_154 (by decide) (fun c154 => ?_) (fun c154 => ?_)
          · replace c154 := bI_n c154; replace c154 := pB_iff.mp c154
            refine lv_aload_n hx hb dX5_isFound_162 rfl (lv_at hl 2 rfl) ?_
            refine lv_aload_n hx hb dX5_isFound_163 rfl (lv_at hl 2 rfl) ?_
            refine va_get (D := (dC, dI)) (ci := 5) (v := .ref aup) (C := RX5) (T := TX5) (N := 25) hx hb hts hi5 hown hK hP 0 rfl rfl 18 (by decide) f45 (fun _ h9 => h9) rfl dX5_isFound_164 ?_
            refine lv_iload_n hx hb dX5_isFound_167 rfl (lv_at hl 4 rfl) ?_
            refine va_lald hx hb hK hP 3 0 rfl rfl (vp_in_nI (show k < 12 by omega) (by omega)) dX5_isFound_168 ?_
            rw [show (nI k).toNatClampNeg = k from nI_clamp (show k < 2 ^ 31 by omega)]
            refine lv_aload_n hx hb dX5_isFound_169 rfl (lv_at hl 2 rfl) ?_
            refine va_get (D := (dC, dI)) (ci := 5) (v := .ref alw) (C := RX5) (T := TX5) (N := 25) hx hb hts hi5 hown hK hP 0 rfl rfl 19 (by decide) f48 (fun _ h9 => h9) rfl dX5_isFound_170 ?_
            refine lv_iload_n hx hb dX5_isFound_173 rfl (lv_at hl 4 rfl) ?_
            refine va_lald hx hb hK hP 4 0 rfl rfl (vp_in_nI (show k < 12 by omega) (by omega)) dX5_isFound_174 ?_
            rw [show (nI k).toNatClampNeg = k from nI_clamp (show k < 2 ^ 31 by omega)]
            obtain ⟨U, hU, eU⟩ := pk_lOf (Int64.not_lt.mpr (hgood k c23).1)
            obtain ⟨L, hL, eL⟩ := pk_lOf (Int64.not_lt.mpr (Int64.le_of_lt (hgood k c23).2))
            have hL0 : 0 < L := Nat.pos_of_ne_zero (fun h => absurd (hgood k c23).2 (by rw [eL, h]; decide))
            rw [show (mMo fon ftw mx my (fup, flw, 0)).1 k = lN U from eU, show (mMo fon ftw mx my (fup, flw, 0)).2.1 k = lN L from eL]
            refine kmVv (q0 := 0) (ci := 5) (As := [.long (lN U), .long (lN L)]) (rest := []) (WC := [(om, .inr (5, [.int (nI cd), .int (nI ns), .ref apx, .ref apy, .ref act, .int (nI nb), .ref asd, .ref amv, .ref asl, .ref apl, .ref asw, .int (nI nw), .ref aor, .int (nI nc), .ref aon, .ref atw, .long mx, .long my, .ref aup, .ref alw, .int (nI ((mMo fon ftw mx my (fup, flw, 0)).2.2)), .long (-1), .long 1, .long rx, .long ry]))]) (W2 := [(om, .inr (5, [.int (nI cd), .int (nI ns), .ref apx, .ref apy, .ref act, .int (nI nb), .ref asd, .ref amv, .ref asl, .ref apl, .ref asw, .int (nI nw), .ref aor, .int (nI nc), .ref aon, .ref atw, .long mx, .long my, .ref aup, .ref alw, .int (nI ((mMo fon ftw mx my (fup, flw, 0)).2.2)), .long (lN (U / Nat.gcd U L)), .long (lN (L / Nat.gcd U L)), .long rx, .long ry]))]) (WR := [(aon, .inl (cJ, 4, .inr (.inl fon))), (atw, .inl (cJ, 4, .inr (.inl ftw))), (aup, .inl (cJ, 12, .inr (.inl (mMo fon ftw mx my (fup, flw, 0)).1))), (alw, .inl (cJ, 12, .inr (.inl (mMo fon ftw mx my (fup, flw, 0)).2.1)))]) (WN := [(om, .inr (5, [.int (nI cd), .int (nI ns), .ref apx, .ref apy, .ref act, .int (nI nb), .ref asd, .ref amv, .ref asl, .ref apl, .ref asw, .int (nI nw), .ref aor, .int (nI nc), .ref aon, .ref atw, .long mx, .long my, .ref aup, .ref alw, .int (nI ((mMo fon ftw mx my (fup, flw, 0)).2.2)), .long (lN (U / Nat.gcd U L)), .long (lN (L / Nat.gcd U L)), .long rx, .long ry])), (aon, .inl (cJ, 4, .inr (.inl fon))), (atw, .inl (cJ, 4, .inr (.inl ftw))), (aup, .inl (cJ, 12, .inr (.inl (mMo fon ftw mx my (fup, flw, 0)).1))), (alw, .inl (cJ, 12, .inr (.inl (mMo fon ftw mx my (fup, flw, 0)).2.1)))]) (tyC := [(cJ, .long), (cI, .int), (cZ, .boolean)]) (isC := [0]) (isR := [1, 2, 3, 4]) (isN := [4, 0, 1, 2, 3]) (its := [0, 1, 2]) ⟨hx, hb, hml, hown, hts⟩ (tX5_tell l dC dI cJ cI cZ om cd ns apx apy act nb asd amv asl apl asw nw aor nc aon atw aup alw ((mMo fon ftw mx my (fup, flw, 0)).2.2) mx my (-1) 1 rx ry U L (by omega) (by omega) (by omega)) (cwV 2 hts gX5_isFound_X5_tell rfl rfl rfl (by decide +kernel) ⟨Nat.le_of_ble_eq_true rfl, Nat.le_of_ble_eq_true rfl⟩) hP hD hA hS hK rfl (by decide) rfl (by decide) (by decide) rfl (by decide) rfl rfl rfl rfl rfl hl.1 (Nat.le_of_ble_eq_true rfl) dX5_isFound_175 ⟨Nat.le_of_ble_eq_true rfl, Nat.le_of_ble_eq_true rfl⟩ (fun H locs hP hD hS => ?_)
            refine lv_iconst (v := (nI 1)) hx hb dX5_isFound_178 (by decide) ?_
            have hhit : (mHitI fon ftw mx my (mMo fon ftw mx my (fup, flw, 0))) k := by first | exact Or.inl c154 | exact Or.inr ⟨c51, c85, c143⟩
            have hq0 : (mRu (mHitI fon ftw mx my (mMo fon ftw mx my (fup, flw, 0))) (mMo fon ftw mx my (fup, flw, 0))) = (lN (U / Nat.gcd U L)) := (by first | (rw [mRu_s (q := (mMo fon ftw mx my (fup, flw, 0))) c23 hhit hno, show (mMo fon ftw mx my (fup, flw, 0)).1 k = lN U from eU, show (mMo fon ftw mx my (fup, flw, 0)).2.1 k = lN L from eL]; exact mTu_N hU hL) | (rw [mRl_s (q := (mMo fon ftw mx my (fup, flw, 0))) c23 hhit hno, show (mMo fon ftw mx my (fup, flw, 0)).1 k = lN U from eU, show (mMo fon ftw mx my (fup, flw, 0)).2.1 k = lN L from eL]; exact mTl_N hU hL))
            have hq1 : (mRl (mHitI fon ftw mx my (mMo fon ftw mx my (fup, flw, 0))) (mMo fon ftw mx my (fup, flw, 0))) = (lN (L / Nat.gcd U L)) := (by first | (rw [mRu_s (q := (mMo fon ftw mx my (fup, flw, 0))) c23 hhit hno, show (mMo fon ftw mx my (fup, flw, 0)).1 k = lN U from eU, show (mMo fon ftw mx my (fup, flw, 0)).2.1 k = lN L from eL]; exact mTu_N hU hL) | (rw [mRl_s (q := (mMo fon ftw mx my (fup, flw, 0))) c23 hhit hno, show (mMo fon ftw mx my (fup, flw, 0)).1 k = lN U from eU, show (mMo fon ftw mx my (fup, flw, 0)).2.1 k = lN L from eL]; exact mTl_N hU hL))
            have hw : ([(om, .inr (5, [.int (nI cd), .int (nI ns), .ref apx, .ref apy, .ref act, .int (nI nb), .ref asd, .ref amv, .ref asl, .ref apl, .ref asw, .int (nI nw), .ref aor, .int (nI nc), .ref aon, .ref atw, .long mx, .long my, .ref aup, .ref alw, .int (nI ((mMo fon ftw mx my (fup, flw, 0)).2.2)), .long (lN (U / Nat.gcd U L)), .long (lN (L / Nat.gcd U L)), .long rx, .long ry])), (aon, .inl (cJ, 4, .inr (.inl fon))), (atw, .inl (cJ, 4, .inr (.inl ftw))), (aup, .inl (cJ, 12, .inr (.inl (mMo fon ftw mx my (fup, flw, 0)).1))), (alw, .inl (cJ, 12, .inr (.inl (mMo fon ftw mx my (fup, flw, 0)).2.1)))] : va_W) = [(om, .inr (5, [.int (nI cd), .int (nI ns), .ref apx, .ref apy, .ref act, .int (nI nb), .ref asd, .ref amv, .ref asl, .ref apl, .ref asw, .int (nI nw), .ref aor, .int (nI nc), .ref aon, .ref atw, .long mx, .long my, .ref aup, .ref alw, .int (nI ((mMo fon ftw mx my (fup, flw, 0)).2.2)), .long (mRu (mHitI fon ftw mx my (mMo fon ftw mx my (fup, flw, 0))) (mMo fon ftw mx my (fup, flw, 0))), .long (mRl (mHitI fon ftw mx my (mMo fon ftw mx my (fup, flw, 0))) (mMo fon ftw mx my (fup, flw, 0))), .long rx, .long ry])), (aon, .inl (cJ, 4, .inr (.inl fon))), (atw, .inl (cJ, 4, .inr (.inl ftw))), (aup, .inl (cJ, 12, .inr (.inl (mMo fon ftw mx my (fup, flw, 0)).1))), (alw, .inl (cJ, 12, .inr (.inl (mMo fon ftw mx my (fup, flw, 0)).2.1)))] := by rw [hq0, hq1]
            rw [hw] at hP hD
            exact kEz hx hb hr hlocks hP hK hD hS dX5_isFound_179 (kp1 ⟨k, c23, hhit⟩)
          · replace c154 := bI_0 c154; replace c154 := pB_not c154
            refine lv_iload hx hb dX5_isFound_157 (lv_at hl 0 rfl) ?_
            refine lv_if_eq (tgt := 180) hx hb dX5_isFound_159 (by decide) (fun c159 => ?_) (fun c159 => ?_)
            · rw [← nI_0, nI_eq (by omega) (by omega)] at c159
              refine lv_iinc (v := (nI (k + 1))) (lv' := [(2, .int (nI (k + 1))), (4, .int (nI 0)), (3, .int (bI (pB (mComI (fon 0) (fon 2) (ftw 0) (ftw 2) mx ((mMo fon ftw mx my (fup, flw, 0)).1 k) ((mMo fon ftw mx my (fup, flw, 0)).2.1 k) ∧ mComI (fon 1) (fon 3) (ftw 1) (ftw 3) my ((mMo fon ftw mx my (fup, flw, 0)).1 k) ((mMo fon ftw mx my (fup, flw, 0)).2.1 k))))), (0, .ref om), (1, .int (bI true))]) hx hb dX5_isFound_180 hl (k := 4) rfl (show (nI k) + Int32.ofInt 1 = nI (k + 1) from nI_add k 1) (by decide) rfl (fun ls hl => ?_)
              refine lv_goto (tgt := 18) hx hb dX5_isFound_183 (by decide) ?_
              exact ih18 (k + 1) _ _ _ ⟨hP, hD, hS, lv_sub hl [3, 4, 0] rfl, ⟨by omega, fun j hj => by rcases Nat.lt_or_ge j k with h | h; exact hno j h; rw [show j = k by omega]; exact (fun z => z.elim c154 (fun w => by first | exact absurd w.1 (by omega) | exact w.2.1 c85 | exact c143 w.2.2))⟩⟩ (by simp only []; omega)
            · skip
              exact absurd c159 (by decide)
        · rw [lg_cmp_eq] at c85
          refine lv_aload_n hx hb dX5_isFound_88 rfl (lv_at hl 1 rfl) ?_
          refine lv_aload_n hx hb dX5_isFound_89 rfl (lv_at hl 1 rfl) ?_
          refine va_get (D := (dC, dI)) (ci := 5) (v := .ref aup) (C := RX5) (T := TX5) (N := 25) hx hb hts hi5 hown hK hP 0 rfl rfl 18 (by decide) f45 (fun _ h9 => h9) rfl dX5_isFound_90 ?_
          refine lv_iload_n hx hb dX5_isFound_93 rfl (lv_at hl 3 rfl) ?_
          refine va_lald hx hb hK hP 3 0 rfl rfl (vp_in_nI (show k < 12 by omega) (by omega)) dX5_isFound_94 ?_
          rw [show (nI k).toNatClampNeg = k from nI_clamp (show k < 2 ^ 31 by omega)]
          refine lv_aload_n hx hb dX5_isFound_95 rfl (lv_at hl 1 rfl) ?_
          refine va_get (D := (dC, dI)) (ci := 5) (v := .ref alw) (C := RX5) (T := TX5) (N := 25) hx hb hts hi5 hown hK hP 0 rfl rfl 19 (by decide) f48 (fun _ h9 => h9) rfl dX5_isFound_96 ?_
          refine lv_iload_n hx hb dX5_isFound_99 rfl (lv_at hl 3 rfl) ?_
          refine lv_iconst (v := (nI 1)) hx hb dX5_isFound_100 (by decide) ?_
          refine lv_iadd hx hb dX5_isFound_101 ?_
          rw [show (nI k) + (nI 1) = (nI (k + 1)) from nI_add k 1]
          refine va_lald hx hb hK hP 4 0 rfl rfl (vp_in_nI (show (k + 1) < 12 by omega) (by omega)) dX5_isFound_102 ?_
          rw [show (nI (k + 1)).toNatClampNeg = (k + 1) from nI_clamp (show (k + 1) < 2 ^ 31 by omega)]
          refine lv_lmul hx hb dX5_isFound_103 ?_
          refine lv_aload_n hx hb dX5_isFound_104 rfl (lv_at hl 1 rfl) ?_
          refine va_get (D := (dC, dI)) (ci := 5) (v := .ref aup) (C := RX5) (T := TX5) (N := 25) hx hb hts hi5 hown hK hP 0 rfl rfl 18 (by decide) f45 (fun _ h9 => h9) rfl dX5_isFound_105 ?_
          refine lv_iload_n hx hb dX5_isFound_108 rfl (lv_at hl 3 rfl) ?_
          refine lv_iconst (v := (nI 1)) hx hb dX5_isFound_109 (by decide) ?_
          refine lv_iadd hx hb dX5_isFound_110 ?_
          rw [show (nI k) + (nI 1) = (nI (k + 1)) from nI_add k 1]
          refine va_lald hx hb hK hP 3 0 rfl rfl (vp_in_nI (show (k + 1) < 12 by omega) (by omega)) dX5_isFound_111 ?_
          rw [show (nI (k + 1)).toNatClampNeg = (k + 1) from nI_clamp (show (k + 1) < 2 ^ 31 by omega)]
          refine lv_aload_n hx hb dX5_isFound_112 rfl (lv_at hl 1 rfl) ?_
          refine va_get (D := (dC, dI)) (ci := 5) (v := .ref alw) (C := RX5) (T := TX5) (N := 25) hx hb hts hi5 hown hK hP 0 rfl rfl 19 (by decide) f48 (fun _ h9 => h9) rfl dX5_isFound_113 ?_
          refine lv_iload_n hx hb dX5_isFound_116 rfl (lv_at hl 3 rfl) ?_
          refine va_lald hx hb hK hP 4 0 rfl rfl (vp_in_nI (show k < 12 by omega) (by omega)) dX5_isFound_117 ?_
          rw [show (nI k).toNatClampNeg = k from nI_clamp (show k < 2 ^ 31 by omega)]
          refine lv_lmul hx hb dX5_isFound_118 ?_
          refine lv_ladd hx hb dX5_isFound_119 ?_
          refine lv_ldc2 hx hb hown (hts (.constantLong RX5 160 (2)) (by decide +kernel)) dX5_isFound_120 ?_
          refine lv_aload_n hx hb dX5_isFound_123 rfl (lv_at hl 1 rfl) ?_
          refine va_get (D := (dC, dI)) (ci := 5) (v := .ref alw) (C := RX5) (T := TX5) (N := 25) hx hb hts hi5 hown hK hP 0 rfl rfl 19 (by decide) f48 (fun _ h9 => h9) rfl dX5_isFound_124 ?_
          refine lv_iload_n hx hb dX5_isFound_127 rfl (lv_at hl 3 rfl) ?_
          refine va_lald hx hb hK hP 4 0 rfl rfl (vp_in_nI (show k < 12 by omega) (by omega)) dX5_isFound_128 ?_
          rw [show (nI k).toNatClampNeg = k from nI_clamp (show k < 2 ^ 31 by omega)]
          refine lv_lmul hx hb dX5_isFound_129 ?_
          refine lv_aload_n hx hb dX5_isFound_130 rfl (lv_at hl 1 rfl) ?_
          refine va_get (D := (dC, dI)) (ci := 5) (v := .ref alw) (C := RX5) (T := TX5) (N := 25) hx hb hts hi5 hown hK hP 0 rfl rfl 19 (by decide) f48 (fun _ h9 => h9) rfl dX5_isFound_131 ?_
          refine lv_iload_n hx hb dX5_isFound_134 rfl (lv_at hl 3 rfl) ?_
          refine lv_iconst (v := (nI 1)) hx hb dX5_isFound_135 (by decide) ?_
          refine lv_iadd hx hb dX5_isFound_136 ?_
          rw [show (nI k) + (nI 1) = (nI (k + 1)) from nI_add k 1]
          refine va_lald hx hb hK hP 4 0 rfl rfl (vp_in_nI (show (k + 1) < 12 by omega) (by omega)) dX5_isFound_137 ?_
          rw [show (nI (k + 1)).toNatClampNeg = (k + 1) from nI_clamp (show (k + 1) < 2 ^ 31 by omega)]
          refine lv_lmul hx hb dX5_isFound_138 ?_
          refine lv_iload_n hx hb dX5_isFound_139 rfl (lv_at hl 2 rfl) ?_
          refine kpVi (q0 := 0) (ci := 5) (As := [.long ((((mMo fon ftw mx my (fup, flw, 0)).1 k) * ((mMo fon ftw mx my (fup, flw, 0)).2.1 ((k + 1)))) + (((mMo fon ftw mx my (fup, flw, 0)).1 ((k + 1))) * ((mMo fon ftw mx my (fup, flw, 0)).2.1 k))), .long ((2 * ((mMo fon ftw mx my (fup, flw, 0)).2.1 k)) * ((mMo fon ftw mx my (fup, flw, 0)).2.1 ((k + 1)))), .int (bI true)]) (rest := []) (WC := [(om, .inr (5, [.int (nI cd), .int (nI ns), .ref apx, .ref apy, .ref act, .int (nI nb), .ref asd, .ref amv, .ref asl, .ref apl, .ref asw, .int (nI nw), .ref aor, .int (nI nc), .ref aon, .ref atw, .long mx, .long my, .ref aup, .ref alw, .int (nI ((mMo fon ftw mx my (fup, flw, 0)).2.2)), .long (-1), .long 1, .long rx, .long ry])), (aon, .inl (cJ, 4, .inr (.inl fon))), (atw, .inl (cJ, 4, .inr (.inl ftw)))]) (tyC := [(cJ, .long), (cI, .int), (cZ, .boolean)]) ⟨hx, hb, hml, hown, hts⟩ (tX5_isAt_t l dC dI cJ cI cZ om cd ns apx apy act nb asd amv asl apl asw nw aor nc aon atw aup alw ((mMo fon ftw mx my (fup, flw, 0)).2.2) mx my (-1) 1 rx ry fon ftw ((((mMo fon ftw mx my (fup, flw, 0)).1 k) * ((mMo fon ftw mx my (fup, flw, 0)).2.1 ((k + 1)))) + (((mMo fon ftw mx my (fup, flw, 0)).1 ((k + 1))) * ((mMo fon ftw mx my (fup, flw, 0)).2.1 k))) ((2 * ((mMo fon ftw mx my (fup, flw, 0)).2.1 k)) * ((mMo fon ftw mx my (fup, flw, 0)).2.1 ((k + 1))))) (cwV 3 hts gX5_isFound_X5_isAt rfl rfl rfl (by decide +kernel) ⟨Nat.le_of_ble_eq_true rfl, Nat.le_of_ble_eq_true rfl⟩) (kPick (isC := [0, 1, 2]) hP rfl) (hK.sub [0, 1, 2] rfl) rfl rfl rfl rfl hl.1 (Nat.le_of_ble_eq_true rfl) dX5_isFound_140 ⟨Nat.le_of_ble_eq_true rfl, Nat.le_of_ble_eq_true rfl⟩ ?_
          refine lv_if_eq (tgt := 150) hx hb dX5_isFound_143 (by decide) (fun c143 => ?_) (fun c143 => ?_)
          · replace c143 := bI_0 c143; replace c143 := pB_not c143
            refine lv_iconst (v := (nI 0)) hx hb dX5_isFound_150 (by decide) ?_
            refine lv_istore (lv' := [(4, .int (nI 0)), (3, .int (bI (pB (mComI (fon 0) (fon 2) (ftw 0) (ftw 2) mx ((mMo fon ftw mx my (fup, flw, 0)).1 k) ((mMo fon ftw mx my (fup, flw, 0)).2.1 k) ∧ mComI (fon 1) (fon 3) (ftw 1) (ftw 3) my ((mMo fon ftw mx my (fup, flw, 0)).1 k) ((mMo fon ftw mx my (fup, flw, 0)).2.1 k))))), (0, .ref om), (1, .int (bI true)), (2, .int (nI k))]) hx hb dX5_isFound_151 hl (by decide) rfl (fun ls hl => ?_)
            refine lv_iload_n hx hb dX5_isFound_153 rfl (lv_at hl 1 rfl) ?_
            refine lv_if_ne (tgt := 162) hx hb dX5_isFound_154 (by decide) (fun c154 => ?_) (fun c154 => ?_)
            · replace c154 := bI_n c154; replace c154 := pB_iff.mp c154
              refine lv_aload_n hx hb dX5_isFound_162 rfl (lv_at hl 2 rfl) ?_
              refine lv_aload_n hx hb dX5_isFound_163 rfl (lv_at hl 2 rfl) ?_
              refine va_get (D := (dC, dI)) (ci := 5) (v := .ref aup) (C := RX5) (T := TX5) (N := 25) hx hb hts hi5 hown hK hP 0 rfl rfl 18 (by decide) f45 (fun _ h9 => h9) rfl dX5_isFound_164 ?_
              refine lv_iload_n hx hb dX5_isFound_167 rfl (lv_at hl 4 rfl) ?_
              refine va_lald hx hb hK hP 3 0 rfl rfl (vp_in_nI (show k < 12 by omega) (by omega)) dX5_isFound_168 ?_
              rw [show (nI k).toNatClampNeg = k from nI_clamp (show k < 2 ^ 31 by omega)]
              refine lv_aload_n hx hb dX5_isFound_169 rfl (lv_at hl 2 rfl) ?_
              refine va_get (D := (dC, dI)) (ci := 5) (v := .ref alw) (C := RX5) (T := TX5) (N := 25) hx hb hts hi5 hown hK hP 0 rfl rfl 19 (by decide) f48 (fun _ h9 => h9) rfl dX5_isFound_170 ?_
              refine lv_iload_n hx hb dX5_isFound_173 rfl (lv_at hl 4 rfl) ?_
              refine va_lald hx hb hK hP 4 0 rfl rfl (vp_in_nI (show k < 12 by omega) (by omega)) dX5_isFound_174 ?_
              rw [show (nI k).toNatClampNeg = k from nI_clamp (show k < 2 ^ 31 by omega)]
              obtain ⟨U, hU, eU⟩ := pk_lOf (Int64.not_lt.mpr (hgood k c23).1)
              obtain ⟨L, hL, eL⟩ := pk_lOf (Int64.not_lt.mpr (Int64.le_of_lt (hgood k c23).2))
              have hL0 : 0 < L := Nat.pos_of_ne_zero (fun h => absurd (hgood k c23).2 (by rw [eL, h]; decide))
              rw [show (mMo fon ftw mx my (fup, flw, 0)).1 k = lN U from eU, show (mMo fon ftw mx my (fup, flw, 0)).2.1 k = lN L from eL]
              refine kmVv (q0 := 0) (ci := 5) (As := [.long (lN U), .long (lN L)]) (rest := []) (WC := [(om, .inr (5, [.int (nI cd), .int (nI ns), .ref apx, .ref apy, .ref act, .int (nI nb), .ref asd, .ref amv, .ref asl, .ref apl, .ref asw, .int (nI nw), .ref aor, .int (nI nc), .ref aon, .ref atw, .long mx, .long my, .ref aup, .ref alw, .int (nI ((mMo fon ftw mx my (fup, flw, 0)).2.2)), .long (-1), .long 1, .long rx, .long ry]))]) (W2 := [(om, .inr (5, [.int (nI cd), .int (nI ns), .ref apx, .ref apy, .ref act, .int (nI nb), .ref asd, .ref amv, .ref asl, .ref apl, .ref asw, .int (nI nw), .ref aor, .int (nI nc), .ref aon, .ref atw, .long mx, .long my, .ref aup, .ref alw, .int (nI ((mMo fon ftw mx my (fup, flw, 0)).2.2)), .long (lN (U / Nat.gcd U L)), .long (lN (L / Nat.gcd U L)), .long rx, .long ry]))]) (WR := [(aon, .inl (cJ, 4, .inr (.inl fon))), (atw, .inl (cJ, 4, .inr (.inl ftw))), (aup, .inl (cJ, 12, .inr (.inl (mMo fon ftw mx my (fup, flw, 0)).1))), (alw, .inl (cJ, 12, .inr (.inl (mMo fon ftw mx my (fup, flw, 0)).2.1)))]) (WN := [(om, .inr (5, [.int (nI cd), .int (nI ns), .ref apx, .ref apy, .ref act, .int (nI nb), .ref asd, .ref amv, .ref asl, .ref apl, .ref asw, .int (nI nw), .ref aor, .int (nI nc), .ref aon, .ref atw, .long mx, .long my, .ref aup, .ref alw, .int (nI ((mMo fon ftw mx my (fup, flw, 0)).2.2)), .long (lN (U / Nat.gcd U L)), .long (lN (L / Nat.gcd U L)), .long rx, .long ry])), (aon, .inl (cJ, 4, .inr (.inl fon))), (atw, .inl (cJ, 4, .inr (.inl ftw))), (aup, .inl (cJ, 12, .inr (.inl (mMo fon ftw mx my (fup, flw, 0)).1))), (alw, .inl (cJ, 12, .inr (.inl (mMo fon ftw mx my (fup, flw, 0)).2.1)))]) (tyC := [(cJ, .long), (cI, .int), (cZ, .boolean)]) (isC := [0]) (isR := [1, 2, 3, 4]) (isN := [4, 0, 1, 2, 3]) (its := [0, 1, 2]) ⟨hx, hb, hml, hown, hts⟩ (tX5_tell l dC dI cJ cI cZ om cd ns apx apy act nb asd amv asl apl asw nw aor nc aon atw aup alw ((mMo fon ftw mx my (fup, flw, 0)).2.2) mx my (-1) 1 rx ry U L (by omega) (by omega) (by omega)) (cwV 2 hts gX5_isFound_X5_tell rfl rfl rfl (by decide +kernel) ⟨Nat.le_of_ble_eq_true rfl, Nat.le_of_ble_eq_true rfl⟩) hP hD hA hS hK rfl (by decide) rfl (by decide) (by decide) rfl (by decide) rfl rfl rfl rfl rfl hl.1 (Nat.le_of_ble_eq_true rfl) dX5_isFound_175 ⟨Nat.le_of_ble_eq_true rfl, Nat.le_of_ble_eq_true rfl⟩ (fun H locs hP hD hS => ?_)
              refine lv_iconst (v := (nI 1)) hx hb dX5_isFound_178 (by decide) ?_
              have hhit : (mHitI fon ftw mx my (mMo fon ftw mx my (fup, flw, 0))) k := by first | exact Or.inl c154 | exact Or.inr ⟨c51, c85, c143⟩
              have hq0 : (mRu (mHitI fon ftw mx my (mMo fon ftw mx my (fup, flw, 0))) (mMo fon ftw mx my (fup, flw, 0))) = (lN (U / Nat.gcd U L)) := (by first | (rw [mRu_s (q := (mMo fon ftw mx my (fup, flw, 0))) c23 hhit hno, show (mMo fon ftw mx my (fup, flw, 0)).1 k = lN U from eU, show (mMo fon ftw mx my (fup, flw, 0)).2.1 k = lN L from eL]; exact mTu_N hU hL) | (rw [mRl_s (q := (mMo fon ftw mx my (fup, flw, 0))) c23 hhit hno, show (mMo fon ftw mx my (fup, flw, 0)).1 k = lN U from eU, show (mMo fon ftw mx my (fup, flw, 0)).2.1 k = lN L from eL]; exact mTl_N hU hL))
              have hq1 : (mRl (mHitI fon ftw mx my (mMo fon ftw mx my (fup, flw, 0))) (mMo fon ftw mx my (fup, flw, 0))) = (lN (L / Nat.gcd U L)) := (by first | (rw [mRu_s (q := (mMo fon ftw mx my (fup, flw, 0))) c23 hhit hno, show (mMo fon ftw mx my (fup, flw, 0)).1 k = lN U from eU, show (mMo fon ftw mx my (fup, flw, 0)).2.1 k = lN L from eL]; exact mTu_N hU hL) | (rw [mRl_s (q := (mMo fon ftw mx my (fup, flw, 0))) c23 hhit hno, show (mMo fon ftw mx my (fup, flw, 0)).1 k = lN U from eU, show (mMo fon ftw mx my (fup, flw, 0)).2.1 k = lN L from eL]; exact mTl_N hU hL))
              have hw : ([(om, .inr (5, [.int (nI cd), .int (nI ns), .ref apx, .ref apy, .ref act, .int (nI nb), .ref asd, .ref amv, .ref asl, .ref apl, .ref asw, .int (nI nw), .ref aor, .int (nI nc), .ref aon, .ref atw, .long mx, .long my, .ref aup, .ref alw, .int (nI ((mMo fon ftw mx my (fup, flw, 0)).2.2)), .long (lN (U / Nat.gcd U L)), .long (lN (L / Nat.gcd U L)), .long rx, .long ry])), (aon, .inl (cJ, 4, .inr (.inl fon))), (atw, .inl (cJ, 4, .inr (.inl ftw))), (aup, .inl (cJ, 12, .inr (.inl (mMo fon ftw mx my (fup, flw, 0)).1))), (alw, .inl (cJ, 12, .inr (.inl (mMo fon ftw mx my (fup, flw, 0)).2.1)))] : va_W) = [(om, .inr (5, [.int (nI cd), .int (nI ns), .ref apx, .ref apy, .ref act, .int (nI nb), .ref asd, .ref amv, .ref asl, .ref apl, .ref asw, .int (nI nw), .ref aor, .int (nI nc), .ref aon, .ref atw, .long mx, .long my, .ref aup, .ref alw, .int (nI ((mMo fon ftw mx my (fup, flw, 0)).2.2)), .long (mRu (mHitI fon ftw mx my (mMo fon ftw mx my (fup, flw, 0))) (mMo fon ftw mx my (fup, flw, 0))), .long (mRl (mHitI fon ftw mx my (mMo fon ftw mx my (fup, flw, 0))) (mMo fon ftw mx my (fup, flw, 0))), .long rx, .long ry])), (aon, .inl (cJ, 4, .inr (.inl fon))), (atw, .inl (cJ, 4, .inr (.inl ftw))), (aup, .inl (cJ, 12, .inr (.inl (mMo fon ftw mx my (fup, flw, 0)).1))), (alw, .inl (cJ, 12, .inr (.inl (mMo fon ftw mx my (fup, flw, 0)).2.1)))] := by rw [hq0, hq1]
              rw [hw] at hP hD
              exact kEz hx hb hr hlocks hP hK hD hS dX5_isFound_179 (kp1 ⟨k, c23, hhit⟩)
            · replace c154 := bI_0 c154; replace c154 := pB_not c154
              refine lv_iload hx hb dX5_isFound_157 (lv_at hl 0 rfl) ?_
              refine lv_if_eq (tgt := 180) hx hb dX5_isFound_159 (by decide) (fun c159 => ?_) (fun c159 => ?_)
              · rw [← nI_0, nI_eq (by omega) (by omega)] at c159
                refine lv_iinc (v := (nI (k + 1))) (lv' := [(2, .int (nI (k + 1))), (4, .int (nI 0)), (3, .int (bI (pB (mComI (fon 0) (fon 2) (ftw 0) (ftw 2) mx ((mMo fon ftw mx my (fup, flw, 0)).1 k) ((mMo fon ftw mx my (fup, flw, 0)).2.1 k) ∧ mComI (fon 1) (fon 3) (ftw 1) (ftw 3) my ((mMo fon ftw mx my (fup, flw, 0)).1 k) ((mMo fon ftw mx my (fup, flw, 0)).2.1 k))))), (0, .ref om), (1, .int (bI true))]) hx hb dX5_isFound_180 hl (k := 4) rfl (show (nI k) + Int32.ofInt 1 = nI (k + 1) from nI_add k 1) (by decide) rfl (fun ls hl => ?_)
                refine lv_goto (tgt := 18) hx hb dX5_isFound_183 (by decide) ?_
                exact ih18 (k + 1) _ _ _ ⟨hP, hD, hS, lv_sub hl [3, 4, 0] rfl, ⟨by omega, fun j hj => by rcases Nat.lt_or_ge j k with h | h; exact hno j h; rw [show j = k by omega]; exact (fun z => z.elim c154 (fun w => by first | exact absurd w.1 (by omega) | exact w.2.1 c85 | exact c143 w.2.2))⟩⟩ (by simp only []; omega)
              · skip
                exact absurd c159 (by decide)
          · replace c143 := bI_n c143; replace c143 := pB_iff.mp c143
            refine lv_iconst (v := (nI 1)) hx hb dX5_isFound_146 (by decide) ?_
            refine lv_goto (tgt := 151) hx hb dX5_isFound_147 (by decide) ?_
            refine lv_istore (lv' := [(4, .int (nI 1)), (3, .int (bI (pB (mComI (fon 0) (fon 2) (ftw 0) (ftw 2) mx ((mMo fon ftw mx my (fup, flw, 0)).1 k) ((mMo fon ftw mx my (fup, flw, 0)).2.1 k) ∧ mComI (fon 1) (fon 3) (ftw 1) (ftw 3) my ((mMo fon ftw mx my (fup, flw, 0)).1 k) ((mMo fon ftw mx my (fup, flw, 0)).2.1 k))))), (0, .ref om), (1, .int (bI true)), (2, .int (nI k))]) hx hb dX5_isFound_151 hl (by decide) rfl (fun ls hl => ?_)
            refine lv_iload_n hx hb dX5_isFound_153 rfl (lv_at hl 1 rfl) ?_
            refine lv_if_ne (tgt := 162) hx hb dX5_isFound_154 (by decide) (fun c154 => ?_) (fun c154 => ?_)
            · replace c154 := bI_n c154; replace c154 := pB_iff.mp c154
              refine lv_aload_n hx hb dX5_isFound_162 rfl (lv_at hl 2 rfl) ?_
              refine lv_aload_n hx hb dX5_isFound_163 rfl (lv_at hl 2 rfl) ?_
              refine va_get (D := (dC, dI)) (ci := 5) (v := .ref aup) (C := RX5) (T := TX5) (N := 25) hx hb hts hi5 hown hK hP 0 rfl rfl 18 (by decide) f45 (fun _ h9 => h9) rfl dX5_isFound_164 ?_
              refine lv_iload_n hx hb dX5_isFound_167 rfl (lv_at hl 4 rfl) ?_
              refine va_lald hx hb hK hP 3 0 rfl rfl (vp_in_nI (show k < 12 by omega) (by omega)) dX5_isFound_168 ?_
              rw [show (nI k).toNatClampNeg = k from nI_clamp (show k < 2 ^ 31 by omega)]
              refine lv_aload_n hx hb dX5_isFound_169 rfl (lv_at hl 2 rfl) ?_
              refine va_get (D := (dC, dI)) (ci := 5) (v := .ref alw) (C := RX5) (T := TX5) (N := 25) hx hb hts hi5 hown hK hP 0 rfl rfl 19 (by decide) f48 (fun _ h9 => h9) rfl dX5_isFound_170 ?_
              refine lv_iload_n hx hb dX5_isFound_173 rfl (lv_at hl 4 rfl) ?_
              refine va_lald hx hb hK hP 4 0 rfl rfl (vp_in_nI (show k < 12 by omega) (by omega)) dX5_isFound_174 ?_
              rw [show (nI k).toNatClampNeg = k from nI_clamp (show k < 2 ^ 31 by omega)]
              obtain ⟨U, hU, eU⟩ := pk_lOf (Int64.not_lt.mpr (hgood k c23).1)
              obtain ⟨L, hL, eL⟩ := pk_lOf (Int64.not_lt.mpr (Int64.le_of_lt (hgood k c23).2))
              have hL0 : 0 < L := Nat.pos_of_ne_zero (fun h => absurd (hgood k c23).2 (by rw [eL, h]; decide))
              rw [show (mMo fon ftw mx my (fup, flw, 0)).1 k = lN U from eU, show (mMo fon ftw mx my (fup, flw, 0)).2.1 k = lN L from eL]
              refine kmVv (q0 := 0) (ci := 5) (As := [.long (lN U), .long (lN L)]) (rest := []) (WC := [(om, .inr (5, [.int (nI cd), .int (nI ns), .ref apx, .ref apy, .ref act, .int (nI nb), .ref asd, .ref amv, .ref asl, .ref apl, .ref asw, .int (nI nw), .ref aor, .int (nI nc), .ref aon, .ref atw, .long mx, .long my, .ref aup, .ref alw, .int (nI ((mMo fon ftw mx my (fup, flw, 0)).2.2)), .long (-1), .long 1, .long rx, .long ry]))]) (W2 := [(om, .inr (5, [.int (nI cd), .int (nI ns), .ref apx, .ref apy, .ref act, .int (nI nb), .ref asd, .ref amv, .ref asl, .ref apl, .ref asw, .int (nI nw), .ref aor, .int (nI nc), .ref aon, .ref atw, .long mx, .long my, .ref aup, .ref alw, .int (nI ((mMo fon ftw mx my (fup, flw, 0)).2.2)), .long (lN (U / Nat.gcd U L)), .long (lN (L / Nat.gcd U L)), .long rx, .long ry]))]) (WR := [(aon, .inl (cJ, 4, .inr (.inl fon))), (atw, .inl (cJ, 4, .inr (.inl ftw))), (aup, .inl (cJ, 12, .inr (.inl (mMo fon ftw mx my (fup, flw, 0)).1))), (alw, .inl (cJ, 12, .inr (.inl (mMo fon ftw mx my (fup, flw, 0)).2.1)))]) (WN := [(om, .inr (5, [.int (nI cd), .int (nI ns), .ref apx, .ref apy, .ref act, .int (nI nb), .ref asd, .ref amv, .ref asl, .ref apl, .ref asw, .int (nI nw), .ref aor, .int (nI nc), .ref aon, .ref atw, .long mx, .long my, .ref aup, .ref alw, .int (nI ((mMo fon ftw mx my (fup, flw, 0)).2.2)), .long (lN (U / Nat.gcd U L)), .long (lN (L / Nat.gcd U L)), .long rx, .long ry])), (aon, .inl (cJ, 4, .inr (.inl fon))), (atw, .inl (cJ, 4, .inr (.inl ftw))), (aup, .inl (cJ, 12, .inr (.inl (mMo fon ftw mx my (fup, flw, 0)).1))), (alw, .inl (cJ, 12, .inr (.inl (mMo fon ftw mx my (fup, flw, 0)).2.1)))]) (tyC := [(cJ, .long), (cI, .int), (cZ, .boolean)]) (isC := [0]) (isR := [1, 2, 3, 4]) (isN := [4, 0, 1, 2, 3]) (its := [0, 1, 2]) ⟨hx, hb, hml, hown, hts⟩ (tX5_tell l dC dI cJ cI cZ om cd ns apx apy act nb asd amv asl apl asw nw aor nc aon atw aup alw ((mMo fon ftw mx my (fup, flw, 0)).2.2) mx my (-1) 1 rx ry U L (by omega) (by omega) (by omega)) (cwV 2 hts gX5_isFound_X5_tell rfl rfl rfl (by decide +kernel) ⟨Nat.le_of_ble_eq_true rfl, Nat.le_of_ble_eq_true rfl⟩) hP hD hA hS hK rfl (by decide) rfl (by decide) (by decide) rfl (by decide) rfl rfl rfl rfl rfl hl.1 (Nat.le_of_ble_eq_true rfl) dX5_isFound_175 ⟨Nat.le_of_ble_eq_true rfl, Nat.le_of_ble_eq_true rfl⟩ (fun H locs hP hD hS => ?_)
              refine lv_iconst (v := (nI 1)) hx hb dX5_isFound_178 (by decide) ?_
              have hhit : (mHitI fon ftw mx my (mMo fon ftw mx my (fup, flw, 0))) k := by first | exact Or.inl c154 | exact Or.inr ⟨c51, c85, c143⟩
              have hq0 : (mRu (mHitI fon ftw mx my (mMo fon ftw mx my (fup, flw, 0))) (mMo fon ftw mx my (fup, flw, 0))) = (lN (U / Nat.gcd U L)) := (by first | (rw [mRu_s (q := (mMo fon ftw mx my (fup, flw, 0))) c23 hhit hno, show (mMo fon ftw mx my (fup, flw, 0)).1 k = lN U from eU, show (mMo fon ftw mx my (fup, flw, 0)).2.1 k = lN L from eL]; exact mTu_N hU hL) | (rw [mRl_s (q := (mMo fon ftw mx my (fup, flw, 0))) c23 hhit hno, show (mMo fon ftw mx my (fup, flw, 0)).1 k = lN U from eU, show (mMo fon ftw mx my (fup, flw, 0)).2.1 k = lN L from eL]; exact mTl_N hU hL))
              have hq1 : (mRl (mHitI fon ftw mx my (mMo fon ftw mx my (fup, flw, 0))) (mMo fon ftw mx my (fup, flw, 0))) = (lN (L / Nat.gcd U L)) := (by first | (rw [mRu_s (q := (mMo fon ftw mx my (fup, flw, 0))) c23 hhit hno, show (mMo fon ftw mx my (fup, flw, 0)).1 k = lN U from eU, show (mMo fon ftw mx my (fup, flw, 0)).2.1 k = lN L from eL]; exact mTu_N hU hL) | (rw [mRl_s (q := (mMo fon ftw mx my (fup, flw, 0))) c23 hhit hno, show (mMo fon ftw mx my (fup, flw, 0)).1 k = lN U from eU, show (mMo fon ftw mx my (fup, flw, 0)).2.1 k = lN L from eL]; exact mTl_N hU hL))
              have hw : ([(om, .inr (5, [.int (nI cd), .int (nI ns), .ref apx, .ref apy, .ref act, .int (nI nb), .ref asd, .ref amv, .ref asl, .ref apl, .ref asw, .int (nI nw), .ref aor, .int (nI nc), .ref aon, .ref atw, .long mx, .long my, .ref aup, .ref alw, .int (nI ((mMo fon ftw mx my (fup, flw, 0)).2.2)), .long (lN (U / Nat.gcd U L)), .long (lN (L / Nat.gcd U L)), .long rx, .long ry])), (aon, .inl (cJ, 4, .inr (.inl fon))), (atw, .inl (cJ, 4, .inr (.inl ftw))), (aup, .inl (cJ, 12, .inr (.inl (mMo fon ftw mx my (fup, flw, 0)).1))), (alw, .inl (cJ, 12, .inr (.inl (mMo fon ftw mx my (fup, flw, 0)).2.1)))] : va_W) = [(om, .inr (5, [.int (nI cd), .int (nI ns), .ref apx, .ref apy, .ref act, .int (nI nb), .ref asd, .ref amv, .ref asl, .ref apl, .ref asw, .int (nI nw), .ref aor, .int (nI nc), .ref aon, .ref atw, .long mx, .long my, .ref aup, .ref alw, .int (nI ((mMo fon ftw mx my (fup, flw, 0)).2.2)), .long (mRu (mHitI fon ftw mx my (mMo fon ftw mx my (fup, flw, 0))) (mMo fon ftw mx my (fup, flw, 0))), .long (mRl (mHitI fon ftw mx my (mMo fon ftw mx my (fup, flw, 0))) (mMo fon ftw mx my (fup, flw, 0))), .long rx, .long ry])), (aon, .inl (cJ, 4, .inr (.inl fon))), (atw, .inl (cJ, 4, .inr (.inl ftw))), (aup, .inl (cJ, 12, .inr (.inl (mMo fon ftw mx my (fup, flw, 0)).1))), (alw, .inl (cJ, 12, .inr (.inl (mMo fon ftw mx my (fup, flw, 0)).2.1)))] := by rw [hq0, hq1]
              rw [hw] at hP hD
              exact kEz hx hb hr hlocks hP hK hD hS dX5_isFound_179 (kp1 ⟨k, c23, hhit⟩)
            · replace c154 := bI_0 c154; replace c154 := pB_not c154
              refine lv_iload hx hb dX5_isFound_157 (lv_at hl 0 rfl) ?_
              refine lv_if_eq (tgt := 180) hx hb dX5_isFound_159 (by decide) (fun c159 => ?_) (fun c159 => ?_)
              · skip
                exact absurd c159 (by decide)
              · rw [← nI_0, nI_eq (by omega) (by omega)] at c159
                refine lv_aload_n hx hb dX5_isFound_162 rfl (lv_at hl 2 rfl) ?_
                refine lv_aload_n hx hb dX5_isFound_163 rfl (lv_at hl 2 rfl) ?_
                refine va_get (D := (dC, dI)) (ci := 5) (v := .ref aup) (C := RX5) (T := TX5) (N := 25) hx hb hts hi5 hown hK hP 0 rfl rfl 18 (by decide) f45 (fun _ h9 => h9) rfl dX5_isFound_164 ?_
                refine lv_iload_n hx hb dX5_isFound_167 rfl (lv_at hl 4 rfl) ?_
                refine va_lald hx hb hK hP 3 0 rfl rfl (vp_in_nI (show k < 12 by omega) (by omega)) dX5_isFound_168 ?_
                rw [show (nI k).toNatClampNeg = k from nI_clamp (show k < 2 ^ 31 by omega)]
                refine lv_aload_n hx hb dX5_isFound_169 rfl (lv_at hl 2 rfl) ?_
                refine va_get (D := (dC, dI)) (ci := 5) (v := .ref alw) (C := RX5) (T := TX5) (N := 25) hx hb hts hi5 hown hK hP 0 rfl rfl 19 (by decide) f48 (fun _ h9 => h9) rfl dX5_isFound_170 ?_
                refine lv_iload_n hx hb dX5_isFound_173 rfl (lv_at hl 4 rfl) ?_
                refine va_lald hx hb hK hP 4 0 rfl rfl (vp_in_nI (show k < 12 by omega) (by omega)) dX5_isFound_174 ?_
                rw [show (nI k).toNatClampNeg = k from nI_clamp (show k < 2 ^ 31 by omega)]
                obtain ⟨U, hU, eU⟩ := pk_lOf (Int64.not_lt.mpr (hgood k c23).1)
                obtain ⟨L, hL, eL⟩ := pk_lOf (Int64.not_lt.mpr (Int64.le_of_lt (hgood k c23).2))
                have hL0 : 0 < L := Nat.pos_of_ne_zero (fun h => absurd (hgood k c23).2 (by rw [eL, h]; decide))
                rw [show (mMo fon ftw mx my (fup, flw, 0)).1 k = lN U from eU, show (mMo fon ftw mx my (fup, flw, 0)).2.1 k = lN L from eL]
                refine kmVv (q0 := 0) (ci := 5) (As := [.long (lN U), .long (lN L)]) (rest := []) (WC := [(om, .inr (5, [.int (nI cd), .int (nI ns), .ref apx, .ref apy, .ref act, .int (nI nb), .ref asd, .ref amv, .ref asl, .ref apl, .ref asw, .int (nI nw), .ref aor, .int (nI nc), .ref aon, .ref atw, .long mx, .long my, .ref aup, .ref alw, .int (nI ((mMo fon ftw mx my (fup, flw, 0)).2.2)), .long (-1), .long 1, .long rx, .long ry]))]) (W2 := [(om, .inr (5, [.int (nI cd), .int (nI ns), .ref apx, .ref apy, .ref act, .int (nI nb), .ref asd, .ref amv, .ref asl, .ref apl, .ref asw, .int (nI nw), .ref aor, .int (nI nc), .ref aon, .ref atw, .long mx, .long my, .ref aup, .ref alw, .int (nI ((mMo fon ftw mx my (fup, flw, 0)).2.2)), .long (lN (U / Nat.gcd U L)), .long (lN (L / Nat.gcd U L)), .long rx, .long ry]))]) (WR := [(aon, .inl (cJ, 4, .inr (.inl fon))), (atw, .inl (cJ, 4, .inr (.inl ftw))), (aup, .inl (cJ, 12, .inr (.inl (mMo fon ftw mx my (fup, flw, 0)).1))), (alw, .inl (cJ, 12, .inr (.inl (mMo fon ftw mx my (fup, flw, 0)).2.1)))]) (WN := [(om, .inr (5, [.int (nI cd), .int (nI ns), .ref apx, .ref apy, .ref act, .int (nI nb), .ref asd, .ref amv, .ref asl, .ref apl, .ref asw, .int (nI nw), .ref aor, .int (nI nc), .ref aon, .ref atw, .long mx, .long my, .ref aup, .ref alw, .int (nI ((mMo fon ftw mx my (fup, flw, 0)).2.2)), .long (lN (U / Nat.gcd U L)), .long (lN (L / Nat.gcd U L)), .long rx, .long ry])), (aon, .inl (cJ, 4, .inr (.inl fon))), (atw, .inl (cJ, 4, .inr (.inl ftw))), (aup, .inl (cJ, 12, .inr (.inl (mMo fon ftw mx my (fup, flw, 0)).1))), (alw, .inl (cJ, 12, .inr (.inl (mMo fon ftw mx my (fup, flw, 0)).2.1)))]) (tyC := [(cJ, .long), (cI, .int), (cZ, .boolean)]) (isC := [0]) (isR := [1, 2, 3, 4]) (isN := [4, 0, 1, 2, 3]) (its := [0, 1, 2]) ⟨hx, hb, hml, hown, hts⟩ (tX5_tell l dC dI cJ cI cZ om cd ns apx apy act nb asd amv asl apl asw nw aor nc aon atw aup alw ((mMo fon ftw mx my (fup, flw, 0)).2.2) mx my (-1) 1 rx ry U L (by omega) (by omega) (by omega)) (cwV 2 hts gX5_isFound_X5_tell rfl rfl rfl (by decide +kernel) ⟨Nat.le_of_ble_eq_true rfl, Nat.le_of_ble_eq_true rfl⟩) hP hD hA hS hK rfl (by decide) rfl (by decide) (by decide) rfl (by decide) rfl rfl rfl rfl rfl hl.1 (Nat.le_of_ble_eq_true rfl) dX5_isFound_175 ⟨Nat.le_of_ble_eq_true rfl, Nat.le_of_ble_eq_true rfl⟩ (fun H locs hP hD hS => ?_)
                refine lv_iconst (v := (nI 1)) hx hb dX5_isFound_178 (by decide) ?_
                have hhit : (mHitI fon ftw mx my (mMo fon ftw mx my (fup, flw, 0))) k := by first | exact Or.inl c154 | exact Or.inr ⟨c51, c85, c143⟩
                have hq0 : (mRu (mHitI fon ftw mx my (mMo fon ftw mx my (fup, flw, 0))) (mMo fon ftw mx my (fup, flw, 0))) = (lN (U / Nat.gcd U L)) := (by first | (rw [mRu_s (q := (mMo fon ftw mx my (fup, flw, 0))) c23 hhit hno, show (mMo fon ftw mx my (fup, flw, 0)).1 k = lN U from eU, show (mMo fon ftw mx my (fup, flw, 0)).2.1 k = lN L from eL]; exact mTu_N hU hL) | (rw [mRl_s (q := (mMo fon ftw mx my (fup, flw, 0))) c23 hhit hno, show (mMo fon ftw mx my (fup, flw, 0)).1 k = lN U from eU, show (mMo fon ftw mx my (fup, flw, 0)).2.1 k = lN L from eL]; exact mTl_N hU hL))
                have hq1 : (mRl (mHitI fon ftw mx my (mMo fon ftw mx my (fup, flw, 0))) (mMo fon ftw mx my (fup, flw, 0))) = (lN (L / Nat.gcd U L)) := (by first | (rw [mRu_s (q := (mMo fon ftw mx my (fup, flw, 0))) c23 hhit hno, show (mMo fon ftw mx my (fup, flw, 0)).1 k = lN U from eU, show (mMo fon ftw mx my (fup, flw, 0)).2.1 k = lN L from eL]; exact mTu_N hU hL) | (rw [mRl_s (q := (mMo fon ftw mx my (fup, flw, 0))) c23 hhit hno, show (mMo fon ftw mx my (fup, flw, 0)).1 k = lN U from eU, show (mMo fon ftw mx my (fup, flw, 0)).2.1 k = lN L from eL]; exact mTl_N hU hL))
                have hw : ([(om, .inr (5, [.int (nI cd), .int (nI ns), .ref apx, .ref apy, .ref act, .int (nI nb), .ref asd, .ref amv, .ref asl, .ref apl, .ref asw, .int (nI nw), .ref aor, .int (nI nc), .ref aon, .ref atw, .long mx, .long my, .ref aup, .ref alw, .int (nI ((mMo fon ftw mx my (fup, flw, 0)).2.2)), .long (lN (U / Nat.gcd U L)), .long (lN (L / Nat.gcd U L)), .long rx, .long ry])), (aon, .inl (cJ, 4, .inr (.inl fon))), (atw, .inl (cJ, 4, .inr (.inl ftw))), (aup, .inl (cJ, 12, .inr (.inl (mMo fon ftw mx my (fup, flw, 0)).1))), (alw, .inl (cJ, 12, .inr (.inl (mMo fon ftw mx my (fup, flw, 0)).2.1)))] : va_W) = [(om, .inr (5, [.int (nI cd), .int (nI ns), .ref apx, .ref apy, .ref act, .int (nI nb), .ref asd, .ref amv, .ref asl, .ref apl, .ref asw, .int (nI nw), .ref aor, .int (nI nc), .ref aon, .ref atw, .long mx, .long my, .ref aup, .ref alw, .int (nI ((mMo fon ftw mx my (fup, flw, 0)).2.2)), .long (mRu (mHitI fon ftw mx my (mMo fon ftw mx my (fup, flw, 0))) (mMo fon ftw mx my (fup, flw, 0))), .long (mRl (mHitI fon ftw mx my (mMo fon ftw mx my (fup, flw, 0))) (mMo fon ftw mx my (fup, flw, 0))), .long rx, .long ry])), (aon, .inl (cJ, 4, .inr (.inl fon))), (atw, .inl (cJ, 4, .inr (.inl ftw))), (aup, .inl (cJ, 12, .inr (.inl (mMo fon ftw mx my (fup, flw, 0)).1))), (alw, .inl (cJ, 12, .inr (.inl (mMo fon ftw mx my (fup, flw, 0)).2.1)))] := by rw [hq0, hq1]
                rw [hw] at hP hD
                exact kEz hx hb hr hlocks hP hK hD hS dX5_isFound_179 (kp1 ⟨k, c23, hhit⟩)
  · exact ⟨hP, hD, hS, lv_sub hl [1, 2, 0] rfl, ⟨Nat.zero_le _, fun j h => absurd h (Nat.not_lt_zero j)⟩⟩

set_option maxHeartbeats 4000000 in
set_option maxRecDepth 100000 in
theorem tX5_isFound_f (l : Launch) (dC : Nat → ClassId) (dI : Nat → Nat → Nat) (cJ cI cZ : ClassId) (om cd ns apx apy act nb asd amv asl apl asw nw aor nc aon atw aup alw nm : Nat) (mx my up lo rx ry : Int64) (fon : Nat → Int64) (ftw : Nat → Int64) (fup : Nat → Int64) (flw : Nat → Int64)   : MMi l yX5_isFound wsX5_isFound { frames := 2, cells := 0, slots := 0, locals := 65 } [.ref om, .int (bI false)] (dC, dI) [(om, .inr (5, [.int (nI cd), .int (nI ns), .ref apx, .ref apy, .ref act, .int (nI nb), .ref asd, .ref amv, .ref asl, .ref apl, .ref asw, .int (nI nw), .ref aor, .int (nI nc), .ref aon, .ref atw, .long mx, .long my, .ref aup, .ref alw, .int (nI nm), .long up, .long lo, .long rx, .long ry])), (aon, .inl (cJ, 4, .inr (.inl fon))), (atw, .inl (cJ, 4, .inr (.inl ftw))), (aup, .inl (cJ, 12, .inr (.inl fup))), (alw, .inl (cJ, 12, .inr (.inl flw)))] [(om, .inr (5, [.int (nI cd), .int (nI ns), .ref apx, .ref apy, .ref act, .int (nI nb), .ref asd, .ref amv, .ref asl, .ref apl, .ref asw, .int (nI nw), .ref aor, .int (nI nc), .ref aon, .ref atw, .long mx, .long my, .ref aup, .ref alw, .int (nI ((mMo fon ftw mx my (fup, flw, 0)).2.2)), .long (mRu (mHitE fon ftw mx my (mMo fon ftw mx my (fup, flw, 0))) (mMo fon ftw mx my (fup, flw, 0))), .long (mRl (mHitE fon ftw mx my (mMo fon ftw mx my (fup, flw, 0))) (mMo fon ftw mx my (fup, flw, 0))), .long rx, .long ry])), (aon, .inl (cJ, 4, .inr (.inl fon))), (atw, .inl (cJ, 4, .inr (.inl ftw))), (aup, .inl (cJ, 12, .inr (.inl (mMo fon ftw mx my (fup, flw, 0)).1))), (alw, .inl (cJ, 12, .inr (.inl (mMo fon ftw mx my (fup, flw, 0)).2.1)))] [(cJ, .long), (cI, .int), (cZ, .boolean)] (bI (pB (∃ k, k < (mMo fon ftw mx my (fup, flw, 0)).2.2 ∧ (mHitE fon ftw mx my (mMo fon ftw mx my (fup, flw, 0))) k))) := by
  intro sz
  refine kOf (cc := cX5_isFound) (maxL := 5) (ret := (some .boolean)) (by decide) rfl (Nat.le_of_ble_eq_true rfl) ?_
  intro p e s m below meth c hx hb hr hml hts hown hlocks hB ls hl
  obtain ⟨hsz, hP, hK, hD0⟩ := hB
  subst hsz
  have hD := hD0.self (sz := s.heap.size)
  generalize hAe : va_A [(om, .inr (5, [.int (nI cd), .int (nI ns), .ref apx, .ref apy, .ref act, .int (nI nb), .ref asd, .ref amv, .ref asl, .ref apl, .ref asw, .int (nI nw), .ref aor, .int (nI nc), .ref aon, .ref atw, .long mx, .long my, .ref aup, .ref alw, .int (nI nm), .long up, .long lo, .long rx, .long ry])), (aon, .inl (cJ, 4, .inr (.inl fon))), (atw, .inl (cJ, 4, .inr (.inl ftw))), (aup, .inl (cJ, 12, .inr (.inl fup))), (alw, .inl (cJ, 12, .inr (.inl flw)))] s.heap.size = A at hD ⊢
  have hA : ∀ q : Nat, s.heap.size ≤ q → A q := fun q h => by rw [← hAe]; exact Or.inr h
  have hS : va_S A s.heap s.heap [] := va_S.rf
  have hl : lv_has ls 5 [(0, .ref om), (1, .int (bI false))] := hl
  have hi5 : ∀ w ∈ u_ws RX5 TX5 25, w ∈ wsX5_isFound := by decide +kernel
  have f45 := hts (.fieldLink RX5 45 "SweptBoxesModel" "ups" "[J") (by decide +kernel)
  have f48 := hts (.fieldLink RX5 48 "SweptBoxesModel" "lows" "[J") (by decide +kernel)
  have f135 := hts (.fieldLink RX5 135 "SweptBoxesModel" "moments" "I") (by decide +kernel)
  have f145 := hts (.fieldLink RX5 145 "SweptBoxesModel" "up" "J") (by decide +kernel)
  have f148 := hts (.fieldLink RX5 148 "SweptBoxesModel" "low" "J") (by decide +kernel)
  refine lv_aload_n hx hb dX5_isFound_0 rfl (lv_at hl 0 rfl) ?_
  refine kmVv (q0 := 0) (ci := 5) (As := []) (rest := []) (WC := [(om, .inr (5, [.int (nI cd), .int (nI ns), .ref apx, .ref apy, .ref act, .int (nI nb), .ref asd, .ref amv, .ref asl, .ref apl, .ref asw, .int (nI nw), .ref aor, .int (nI nc), .ref aon, .ref atw, .long mx, .long my, .ref aup, .ref alw, .int (nI nm), .long up, .long lo, .long rx, .long ry])), (aon, .inl (cJ, 4, .inr (.inl fon))), (atw, .inl (cJ, 4, .inr (.inl ftw))), (aup, .inl (cJ, 12, .inr (.inl fup))), (alw, .inl (cJ, 12, .inr (.inl flw)))]) (W2 := [(om, .inr (5, [.int (nI cd), .int (nI ns), .ref apx, .ref apy, .ref act, .int (nI nb), .ref asd, .ref amv, .ref asl, .ref apl, .ref asw, .int (nI nw), .ref aor, .int (nI nc), .ref aon, .ref atw, .long mx, .long my, .ref aup, .ref alw, .int (nI ((mMo fon ftw mx my (fup, flw, 0)).2.2)), .long up, .long lo, .long rx, .long ry])), (aon, .inl (cJ, 4, .inr (.inl fon))), (atw, .inl (cJ, 4, .inr (.inl ftw))), (aup, .inl (cJ, 12, .inr (.inl (mMo fon ftw mx my (fup, flw, 0)).1))), (alw, .inl (cJ, 12, .inr (.inl (mMo fon ftw mx my (fup, flw, 0)).2.1)))]) (WR := []) (WN := [(om, .inr (5, [.int (nI cd), .int (nI ns), .ref apx, .ref apy, .ref act, .int (nI nb), .ref asd, .ref amv, .ref asl, .ref apl, .ref asw, .int (nI nw), .ref aor, .int (nI nc), .ref aon, .ref atw, .long mx, .long my, .ref aup, .ref alw, .int (nI ((mMo fon ftw mx my (fup, flw, 0)).2.2)), .long up, .long lo, .long rx, .long ry])), (aon, .inl (cJ, 4, .inr (.inl fon))), (atw, .inl (cJ, 4, .inr (.inl ftw))), (aup, .inl (cJ, 12, .inr (.inl (mMo fon ftw mx my (fup, flw, 0)).1))), (alw, .inl (cJ, 12, .inr (.inl (mMo fon ftw mx my (fup, flw, 0)).2.1)))]) (tyC := [(cJ, .long), (cI, .int), (cZ, .boolean)]) (isC := [0, 1, 2, 3, 4]) (isR := []) (isN := [0, 1, 2, 3, 4]) (its := [0, 1, 2]) ⟨hx, hb, hml, hown, hts⟩ (tX5_findMoments l dC dI cJ cI cZ om cd ns apx apy act nb asd amv asl apl asw nw aor nc aon atw aup alw nm mx my up lo rx ry fon ftw fup flw) (cwV 0 hts gX5_isFound_X5_findMoments rfl rfl rfl (by decide +kernel) ⟨Nat.le_of_ble_eq_true rfl, Nat.le_of_ble_eq_true rfl⟩) hP hD hA hS hK rfl (by decide) rfl (by decide) (by decide) rfl (by decide) rfl rfl rfl rfl rfl hl.1 (Nat.le_of_ble_eq_true rfl) dX5_isFound_1 ⟨Nat.le_of_ble_eq_true rfl, Nat.le_of_ble_eq_true rfl⟩ (fun H locs hP hD hS => ?_)
  have hmo := mMo_le fon ftw mx my fup flw
  have hgood := mMo_good fon ftw mx my fup flw
  refine lv_aload_n hx hb dX5_isFound_4 rfl (lv_at hl 0 rfl) ?_
  refine lv_ldc2 hx hb hown (hts (.constantLong RX5 154 (-1)) (by decide +kernel)) dX5_isFound_5 ?_
  refine va_put (D := (dC, dI)) (ci := 5) (v := .long (-1)) (ty := .long) (C := RX5) (T := TX5) (N := 25) hx hb hts hi5 tyX5 tyX5_ok nmX5 hown hK hP hD hS 0 rfl rfl 21 (by decide) f145 (fun _ h9 => h9) rfl (by decide +kernel) rfl rfl (Nat.le_of_ble_eq_true rfl) dX5_isFound_8 (fun H locs hP hD hS => ?_)
  have hP : va_P (dC, dI) vwCl [(om, .inr (5, [.int (nI cd), .int (nI ns), .ref apx, .ref apy, .ref act, .int (nI nb), .ref asd, .ref amv, .ref asl, .ref apl, .ref asw, .int (nI nw), .ref aor, .int (nI nc), .ref aon, .ref atw, .long mx, .long my, .ref aup, .ref alw, .int (nI ((mMo fon ftw mx my (fup, flw, 0)).2.2)), .long (-1), .long lo, .long rx, .long ry])), (aon, .inl (cJ, 4, .inr (.inl fon))), (atw, .inl (cJ, 4, .inr (.inl ftw))), (aup, .inl (cJ, 12, .inr (.inl (mMo fon ftw mx my (fup, flw, 0)).1))), (alw, .inl (cJ, 12, .inr (.inl (mMo fon ftw mx my (fup, flw, 0)).2.1)))] H := hP
  have hD : va_D A [(om, .inr (5, [.int (nI cd), .int (nI ns), .ref apx, .ref apy, .ref act, .int (nI nb), .ref asd, .ref amv, .ref asl, .ref apl, .ref asw, .int (nI nw), .ref aor, .int (nI nc), .ref aon, .ref atw, .long mx, .long my, .ref aup, .ref alw, .int (nI ((mMo fon ftw mx my (fup, flw, 0)).2.2)), .long (-1), .long lo, .long rx, .long ry])), (aon, .inl (cJ, 4, .inr (.inl fon))), (atw, .inl (cJ, 4, .inr (.inl ftw))), (aup, .inl (cJ, 12, .inr (.inl (mMo fon ftw mx my (fup, flw, 0)).1))), (alw, .inl (cJ, 12, .inr (.inl (mMo fon ftw mx my (fup, flw, 0)).2.1)))] := hD
  refine lv_aload_n hx hb dX5_isFound_11 rfl (lv_at hl 0 rfl) ?_
  refine lv_lconst (v := 1) hx hb dX5_isFound_12 (by decide) ?_
  refine va_put (D := (dC, dI)) (ci := 5) (v := .long 1) (ty := .long) (C := RX5) (T := TX5) (N := 25) hx hb hts hi5 tyX5 tyX5_ok nmX5 hown hK hP hD hS 0 rfl rfl 22 (by decide) f148 (fun _ h9 => h9) rfl (by decide +kernel) rfl rfl (Nat.le_of_ble_eq_true rfl) dX5_isFound_13 (fun H locs hP hD hS => ?_)
  have hP : va_P (dC, dI) vwCl [(om, .inr (5, [.int (nI cd), .int (nI ns), .ref apx, .ref apy, .ref act, .int (nI nb), .ref asd, .ref amv, .ref asl, .ref apl, .ref asw, .int (nI nw), .ref aor, .int (nI nc), .ref aon, .ref atw, .long mx, .long my, .ref aup, .ref alw, .int (nI ((mMo fon ftw mx my (fup, flw, 0)).2.2)), .long (-1), .long 1, .long rx, .long ry])), (aon, .inl (cJ, 4, .inr (.inl fon))), (atw, .inl (cJ, 4, .inr (.inl ftw))), (aup, .inl (cJ, 12, .inr (.inl (mMo fon ftw mx my (fup, flw, 0)).1))), (alw, .inl (cJ, 12, .inr (.inl (mMo fon ftw mx my (fup, flw, 0)).2.1)))] H := hP
  have hD : va_D A [(om, .inr (5, [.int (nI cd), .int (nI ns), .ref apx, .ref apy, .ref act, .int (nI nb), .ref asd, .ref amv, .ref asl, .ref apl, .ref asw, .int (nI nw), .ref aor, .int (nI nc), .ref aon, .ref atw, .long mx, .long my, .ref aup, .ref alw, .int (nI ((mMo fon ftw mx my (fup, flw, 0)).2.2)), .long (-1), .long 1, .long rx, .long ry])), (aon, .inl (cJ, 4, .inr (.inl fon))), (atw, .inl (cJ, 4, .inr (.inl ftw))), (aup, .inl (cJ, 12, .inr (.inl (mMo fon ftw mx my (fup, flw, 0)).1))), (alw, .inl (cJ, 12, .inr (.inl (mMo fon ftw mx my (fup, flw, 0)).2.1)))] := hD
  refine lv_iconst (v := (nI 0)) hx hb dX5_isFound_16 (by decide) ?_
  refine lv_istore_n (lv' := [(2, .int (nI 0)), (0, .ref om), (1, .int (bI false))]) hx hb dX5_isFound_17 rfl hl (by decide) rfl (fun ls hl => ?_)
  refine kLoop (σ := Nat) (fun xz H locs ls => match xz with | k => (va_P (dC, dI) vwCl [(om, .inr (5, [.int (nI cd), .int (nI ns), .ref apx, .ref apy, .ref act, .int (nI nb), .ref asd, .ref amv, .ref asl, .ref apl, .ref asw, .int (nI nw), .ref aor, .int (nI nc), .ref aon, .ref atw, .long mx, .long my, .ref aup, .ref alw, .int (nI ((mMo fon ftw mx my (fup, flw, 0)).2.2)), .long (-1), .long 1, .long rx, .long ry])), (aon, .inl (cJ, 4, .inr (.inl fon))), (atw, .inl (cJ, 4, .inr (.inl ftw))), (aup, .inl (cJ, 12, .inr (.inl (mMo fon ftw mx my (fup, flw, 0)).1))), (alw, .inl (cJ, 12, .inr (.inl (mMo fon ftw mx my (fup, flw, 0)).2.1)))] H) ∧ (va_D A [(om, .inr (5, [.int (nI cd), .int (nI ns), .ref apx, .ref apy, .ref act, .int (nI nb), .ref asd, .ref amv, .ref asl, .ref apl, .ref asw, .int (nI nw), .ref aor, .int (nI nc), .ref aon, .ref atw, .long mx, .long my, .ref aup, .ref alw, .int (nI ((mMo fon ftw mx my (fup, flw, 0)).2.2)), .long (-1), .long 1, .long rx, .long ry])), (aon, .inl (cJ, 4, .inr (.inl fon))), (atw, .inl (cJ, 4, .inr (.inl ftw))), (aup, .inl (cJ, 12, .inr (.inl (mMo fon ftw mx my (fup, flw, 0)).1))), (alw, .inl (cJ, 12, .inr (.inl (mMo fon ftw mx my (fup, flw, 0)).2.1)))]) ∧ (va_S A s.heap H locs) ∧ (lv_has ls 5 [(0, .ref om), (1, .int (bI false)), (2, .int (nI k))]) ∧ (k ≤ (mMo fon ftw mx my (fup, flw, 0)).2.2 ∧ ∀ j, j < k → ¬ (mHitE fon ftw mx my (mMo fon ftw mx my (fup, flw, 0))) j)) (fun xz => match xz with | k => (mMo fon ftw mx my (fup, flw, 0)).2.2 - k) ?_ (0) ?_
  · rintro k H locs ls hI ih18
    obtain ⟨hP, hD, hS, hl, hi18_⟩ := hI
    obtain ⟨hk, hno⟩ := hi18_
    refine lv_iload_n hx hb dX5_isFound_18 rfl (lv_at hl 2 rfl) ?_
    refine lv_aload_n hx hb dX5_isFound_19 rfl (lv_at hl 0 rfl) ?_
    refine va_get (D := (dC, dI)) (ci := 5) (v := .int (nI ((mMo fon ftw mx my (fup, flw, 0)).2.2))) (C := RX5) (T := TX5) (N := 25) hx hb hts hi5 hown hK hP 0 rfl rfl 20 (by decide) f135 (fun _ h9 => h9) rfl dX5_isFound_20 ?_
    refine lv_icmp_ge (tgt := 186) hx hb dX5_isFound_23 (by decide) (fun c23 => ?_) (fun c23 => ?_)
    · rw [nI_leI (by omega) (by omega)] at c23
      refine lv_iconst (v := (nI 0)) hx hb dX5_isFound_186 (by decide) ?_
      have hq0 : (mRu (mHitE fon ftw mx my (mMo fon ftw mx my (fup, flw, 0))) (mMo fon ftw mx my (fup, flw, 0))) = (-1) := (by first | exact mRu_n (fun j hj => hno j (by omega)) | exact mRl_n (fun j hj => hno j (by omega)))
      have hq1 : (mRl (mHitE fon ftw mx my (mMo fon ftw mx my (fup, flw, 0))) (mMo fon ftw mx my (fup, flw, 0))) = 1 := (by first | exact mRu_n (fun j hj => hno j (by omega)) | exact mRl_n (fun j hj => hno j (by omega)))
      have hw : ([(om, .inr (5, [.int (nI cd), .int (nI ns), .ref apx, .ref apy, .ref act, .int (nI nb), .ref asd, .ref amv, .ref asl, .ref apl, .ref asw, .int (nI nw), .ref aor, .int (nI nc), .ref aon, .ref atw, .long mx, .long my, .ref aup, .ref alw, .int (nI ((mMo fon ftw mx my (fup, flw, 0)).2.2)), .long (-1), .long 1, .long rx, .long ry])), (aon, .inl (cJ, 4, .inr (.inl fon))), (atw, .inl (cJ, 4, .inr (.inl ftw))), (aup, .inl (cJ, 12, .inr (.inl (mMo fon ftw mx my (fup, flw, 0)).1))), (alw, .inl (cJ, 12, .inr (.inl (mMo fon ftw mx my (fup, flw, 0)).2.1)))] : va_W) = [(om, .inr (5, [.int (nI cd), .int (nI ns), .ref apx, .ref apy, .ref act, .int (nI nb), .ref asd, .ref amv, .ref asl, .ref apl, .ref asw, .int (nI nw), .ref aor, .int (nI nc), .ref aon, .ref atw, .long mx, .long my, .ref aup, .ref alw, .int (nI ((mMo fon ftw mx my (fup, flw, 0)).2.2)), .long (mRu (mHitE fon ftw mx my (mMo fon ftw mx my (fup, flw, 0))) (mMo fon ftw mx my (fup, flw, 0))), .long (mRl (mHitE fon ftw mx my (mMo fon ftw mx my (fup, flw, 0))) (mMo fon ftw mx my (fup, flw, 0))), .long rx, .long ry])), (aon, .inl (cJ, 4, .inr (.inl fon))), (atw, .inl (cJ, 4, .inr (.inl ftw))), (aup, .inl (cJ, 12, .inr (.inl (mMo fon ftw mx my (fup, flw, 0)).1))), (alw, .inl (cJ, 12, .inr (.inl (mMo fon ftw mx my (fup, flw, 0)).2.1)))] := by rw [hq0, hq1]
      rw [hw] at hP hD
      exact kEz hx hb hr hlocks hP hK hD hS dX5_isFound_187 (kp0 (fun ⟨j, h1, h2⟩ => hno j (by omega) h2))
    · rw [nI_leI (by omega) (by omega), Nat.not_le] at c23
      refine lv_aload_n hx hb dX5_isFound_26 rfl (lv_at hl 0 rfl) ?_
      refine lv_aload_n hx hb dX5_isFound_27 rfl (lv_at hl 0 rfl) ?_
      refine va_get (D := (dC, dI)) (ci := 5) (v := .ref aup) (C := RX5) (T := TX5) (N := 25) hx hb hts hi5 hown hK hP 0 rfl rfl 18 (by decide) f45 (fun _ h9 => h9) rfl dX5_isFound_28 ?_
      refine lv_iload_n hx hb dX5_isFound_31 rfl (lv_at hl 2 rfl) ?_
      refine va_lald hx hb hK hP 3 0 rfl rfl (vp_in_nI (show k < 12 by omega) (by omega)) dX5_isFound_32 ?_
      rw [show (nI k).toNatClampNeg = k from nI_clamp (show k < 2 ^ 31 by omega)]
      refine lv_aload_n hx hb dX5_isFound_33 rfl (lv_at hl 0 rfl) ?_
      refine va_get (D := (dC, dI)) (ci := 5) (v := .ref alw) (C := RX5) (T := TX5) (N := 25) hx hb hts hi5 hown hK hP 0 rfl rfl 19 (by decide) f48 (fun _ h9 => h9) rfl dX5_isFound_34 ?_
      refine lv_iload_n hx hb dX5_isFound_37 rfl (lv_at hl 2 rfl) ?_
      refine va_lald hx hb hK hP 4 0 rfl rfl (vp_in_nI (show k < 12 by omega) (by omega)) dX5_isFound_38 ?_
      rw [show (nI k).toNatClampNeg = k from nI_clamp (show k < 2 ^ 31 by omega)]
      refine lv_iload_n hx hb dX5_isFound_39 rfl (lv_at hl 1 rfl) ?_
      refine kpVi (q0 := 0) (ci := 5) (As := [.long ((mMo fon ftw mx my (fup, flw, 0)).1 k), .long ((mMo fon ftw mx my (fup, flw, 0)).2.1 k), .int (bI false)]) (rest := []) (WC := [(om, .inr (5, [.int (nI cd), .int (nI ns), .ref apx, .ref apy, .ref act, .int (nI nb), .ref asd, .ref amv, .ref asl, .ref apl, .ref asw, .int (nI nw), .ref aor, .int (nI nc), .ref aon, .ref atw, .long mx, .long my, .ref aup, .ref alw, .int (nI ((mMo fon ftw mx my (fup, flw, 0)).2.2)), .long (-1), .long 1, .long rx, .long ry])), (aon, .inl (cJ, 4, .inr (.inl fon))), (atw, .inl (cJ, 4, .inr (.inl ftw)))]) (tyC := [(cJ, .long), (cI, .int), (cZ, .boolean)]) ⟨hx, hb, hml, hown, hts⟩ (tX5_isAt_f l dC dI cJ cI cZ om cd ns apx apy act nb asd amv asl apl asw nw aor nc aon atw aup alw ((mMo fon ftw mx my (fup, flw, 0)).2.2) mx my (-1) 1 rx ry fon ftw ((mMo fon ftw mx my (fup, flw, 0)).1 k) ((mMo fon ftw mx my (fup, flw, 0)).2.1 k)) (cwV 3 hts gX5_isFound_X5_isAt rfl rfl rfl (by decide +kernel) ⟨Nat.le_of_ble_eq_true rfl, Nat.le_of_ble_eq_true rfl⟩) (kPick (isC := [0, 1, 2]) hP rfl) (hK.sub [0, 1, 2] rfl) rfl rfl rfl rfl hl.1 (Nat.le_of_ble_eq_true rfl) dX5_isFound_40 ⟨Nat.le_of_ble_eq_true rfl, Nat.le_of_ble_eq_true rfl⟩ ?_
      refine lv_istore_n (lv' := [(3, .int (bI (pB (mComE (fon 0) (fon 2) (ftw 0) (ftw 2) mx ((mMo fon ftw mx my (fup, flw, 0)).1 k) ((mMo fon ftw mx my (fup, flw, 0)).2.1 k) ∧ mComE (fon 1) (fon 3) (ftw 1) (ftw 3) my ((mMo fon ftw mx my (fup, flw, 0)).1 k) ((mMo fon ftw mx my (fup, flw, 0)).2.1 k))))), (0, .ref om), (1, .int (bI false)), (2, .int (nI k))]) hx hb dX5_isFound_43 rfl hl (by decide) rfl (fun ls hl => ?_)
      refine lv_iload_n hx hb dX5_isFound_44 rfl (lv_at hl 3 rfl) ?_
      refine lv_iconst (v := (nI 1)) hx hb dX5_isFound_45 (by decide) ?_
      refine lv_iadd hx hb dX5_isFound_46 ?_
      rw [show (nI k) + (nI 1) = (nI (k + 1)) from nI_add k 1]
      refine lv_aload_n hx hb dX5_isFound_47 rfl (lv_at hl 1 rfl) ?_
      refine va_get (D := (dC, dI)) (ci := 5) (v := .int (nI ((mMo fon ftw mx my (fup, flw, 0)).2.2))) (C := RX5) (T := TX5) (N := 25) hx hb hts hi5 hown hK hP 0 rfl rfl 20 (by decide) f135 (fun _ h9 => h9) rfl dX5_isFound_48 ?_
      refine lv_icmp_ge (tgt := 150) hx hb dX5_isFound_51 (by decide) (fun c51 => ?_) (fun c51 => ?_)
      · rw [nI_leI (by omega) (by omega)] at c51
        refine lv_iconst (v := (nI 0)) hx hb dX5_isFound_150 (by decide) ?_
        refine lv_istore (lv' := [(4, .int (nI 0)), (3, .int (bI (pB (mComE (fon 0) (fon 2) (ftw 0) (ftw 2) mx ((mMo fon ftw mx my (fup, flw, 0)).1 k) ((mMo fon ftw mx my (fup, flw, 0)).2.1 k) ∧ mComE (fon 1) (fon 3) (ftw 1) (ftw 3) my ((mMo fon ftw mx my (fup, flw, 0)).1 k) ((mMo fon ftw mx my (fup, flw, 0)).2.1 k))))), (0, .ref om), (1, .int (bI false)), (2, .int (nI k))]) hx hb dX5_isFound_151 hl (by decide) rfl (fun ls hl => ?_)
        refine lv_iload_n hx hb dX5_isFound_153 rfl (lv_at hl 1 rfl) ?_
        refine lv_if_ne (tgt := 162) hx hb dX5_isFound_154 (by decide) (fun c154 => ?_) (fun c154 => ?_)
        · replace c154 := bI_n c154; replace c154 := pB_iff.mp c154
          refine lv_aload_n hx hb dX5_isFound_162 rfl (lv_at hl 2 rfl) ?_
          refine lv_aload_n hx hb dX5_isFound_163 rfl (lv_at hl 2 rfl) ?_
          refine va_get (D := (dC, dI)) (ci := 5) (v := .ref aup) (C := RX5) (T := TX5) (N := 25) hx hb hts hi5 hown hK hP 0 rfl rfl 18 (by decide) f45 (fun _ h9 => h9) rfl dX5_isFound_164 ?_
          refine lv_iload_n hx hb dX5_isFound_167 rfl (lv_at hl 4 rfl) ?_
          refine va_lald hx hb hK hP 3 0 rfl rfl (vp_in_nI (show k < 12 by omega) (by omega)) dX5_isFound_168 ?_
          rw [show (nI k).toNatClampNeg = k from nI_clamp (show k < 2 ^ 31 by omega)]
          refine lv_aload_n hx hb dX5_isFound_169 rfl (lv_at hl 2 rfl) ?_
          refine va_get (D := (dC, dI)) (ci := 5) (v := .ref alw) (C := RX5) (T := TX5) (N := 25) hx hb hts hi5 hown hK hP 0 rfl rfl 19 (by decide) f48 (fun _ h9 => h9) rfl dX5_isFound_170 ?_
          refine lv_iload_n hx hb dX5_isFound_173 rfl (lv_at hl 4 rfl) ?_
          refine va_lald hx hb hK hP 4 0 rfl rfl (vp_in_nI (show k < 12 by omega) (by omega)) dX5_isFound_174 ?_
          rw [show (nI k).toNatClampNeg = k from nI_clamp (show k < 2 ^ 31 by omega)]
          obtain ⟨U, hU, eU⟩ := pk_lOf (Int64.not_lt.mpr (hgood k c23).1)
          obtain ⟨L, hL, eL⟩ := pk_lOf (Int64.not_lt.mpr (Int64.le_of_lt (hgood k c23).2))
          have hL0 : 0 < L := Nat.pos_of_ne_zero (fun h => absurd (hgood k c23).2 (by rw [eL, h]; decide))
          rw [show (mMo fon ftw mx my (fup, flw, 0)).1 k = lN U from eU, show (mMo fon ftw mx my (fup, flw, 0)).2.1 k = lN L from eL]
          refine kmVv (q0 := 0) (ci := 5) (As := [.long (lN U), .long (lN L)]) (rest := []) (WC := [(om, .inr (5, [.int (nI cd), .int (nI ns), .ref apx, .ref apy, .ref act, .int (nI nb), .ref asd, .ref amv, .ref asl, .ref apl, .ref asw, .int (nI nw), .ref aor, .int (nI nc), .ref aon, .ref atw, .long mx, .long my, .ref aup, .ref alw, .int (nI ((mMo fon ftw mx my (fup, flw, 0)).2.2)), .long (-1), .long 1, .long rx, .long ry]))]) (W2 := [(om, .inr (5, [.int (nI cd), .int (nI ns), .ref apx, .ref apy, .ref act, .int (nI nb), .ref asd, .ref amv, .ref asl, .ref apl, .ref asw, .int (nI nw), .ref aor, .int (nI nc), .ref aon, .ref atw, .long mx, .long my, .ref aup, .ref alw, .int (nI ((mMo fon ftw mx my (fup, flw, 0)).2.2)), .long (lN (U / Nat.gcd U L)), .long (lN (L / Nat.gcd U L)), .long rx, .long ry]))]) (WR := [(aon, .inl (cJ, 4, .inr (.inl fon))), (atw, .inl (cJ, 4, .inr (.inl ftw))), (aup, .inl (cJ, 12, .inr (.inl (mMo fon ftw mx my (fup, flw, 0)).1))), (alw, .inl (cJ, 12, .inr (.inl (mMo fon ftw mx my (fup, flw, 0)).2.1)))]) (WN := [(om, .inr (5, [.int (nI cd), .int (nI ns), .ref apx, .ref apy, .ref act, .int (nI nb), .ref asd, .ref amv, .ref asl, .ref apl, .ref asw, .int (nI nw), .ref aor, .int (nI nc), .ref aon, .ref atw, .long mx, .long my, .ref aup, .ref alw, .int (nI ((mMo fon ftw mx my (fup, flw, 0)).2.2)), .long (lN (U / Nat.gcd U L)), .long (lN (L / Nat.gcd U L)), .long rx, .long ry])), (aon, .inl (cJ, 4, .inr (.inl fon))), (atw, .inl (cJ, 4, .inr (.inl ftw))), (aup, .inl (cJ, 12, .inr (.inl (mMo fon ftw mx my (fup, flw, 0)).1))), (alw, .inl (cJ, 12, .inr (.inl (mMo fon ftw mx my (fup, flw, 0)).2.1)))]) (tyC := [(cJ, .long), (cI, .int), (cZ, .boolean)]) (isC := [0]) (isR := [1, 2, 3, 4]) (isN := [4, 0, 1, 2, 3]) (its := [0, 1, 2]) ⟨hx, hb, hml, hown, hts⟩ (tX5_tell l dC dI cJ cI cZ om cd ns apx apy act nb asd amv asl apl asw nw aor nc aon atw aup alw ((mMo fon ftw mx my (fup, flw, 0)).2.2) mx my (-1) 1 rx ry U L (by omega) (by omega) (by omega)) (cwV 2 hts gX5_isFound_X5_tell rfl rfl rfl (by decide +kernel) ⟨Nat.le_of_ble_eq_true rfl, Nat.le_of_ble_eq_true rfl⟩) hP hD hA hS hK rfl (by decide) rfl (by decide) (by decide) rfl (by decide) rfl rfl rfl rfl rfl hl.1 (Nat.le_of_ble_eq_true rfl) dX5_isFound_175 ⟨Nat.le_of_ble_eq_true rfl, Nat.le_of_ble_eq_true rfl⟩ (fun H locs hP hD hS => ?_)
          refine lv_iconst (v := (nI 1)) hx hb dX5_isFound_178 (by decide) ?_
          have hhit : (mHitE fon ftw mx my (mMo fon ftw mx my (fup, flw, 0))) k := by first | exact Or.inl c154 | exact Or.inr ⟨c51, c85, c143⟩
          have hq0 : (mRu (mHitE fon ftw mx my (mMo fon ftw mx my (fup, flw, 0))) (mMo fon ftw mx my (fup, flw, 0))) = (lN (U / Nat.gcd U L)) := (by first | (rw [mRu_s (q := (mMo fon ftw mx my (fup, flw, 0))) c23 hhit hno, show (mMo fon ftw mx my (fup, flw, 0)).1 k = lN U from eU, show (mMo fon ftw mx my (fup, flw, 0)).2.1 k = lN L from eL]; exact mTu_N hU hL) | (rw [mRl_s (q := (mMo fon ftw mx my (fup, flw, 0))) c23 hhit hno, show (mMo fon ftw mx my (fup, flw, 0)).1 k = lN U from eU, show (mMo fon ftw mx my (fup, flw, 0)).2.1 k = lN L from eL]; exact mTl_N hU hL))
          have hq1 : (mRl (mHitE fon ftw mx my (mMo fon ftw mx my (fup, flw, 0))) (mMo fon ftw mx my (fup, flw, 0))) = (lN (L / Nat.gcd U L)) := (by first | (rw [mRu_s (q := (mMo fon ftw mx my (fup, flw, 0))) c23 hhit hno, show (mMo fon ftw mx my (fup, flw, 0)).1 k = lN U from eU, show (mMo fon ftw mx my (fup, flw, 0)).2.1 k = lN L from eL]; exact mTu_N hU hL) | (rw [mRl_s (q := (mMo fon ftw mx my (fup, flw, 0))) c23 hhit hno, show (mMo fon ftw mx my (fup, flw, 0)).1 k = lN U from eU, show (mMo fon ftw mx my (fup, flw, 0)).2.1 k = lN L from eL]; exact mTl_N hU hL))
          have hw : ([(om, .inr (5, [.int (nI cd), .int (nI ns), .ref apx, .ref apy, .ref act, .int (nI nb), .ref asd, .ref amv, .ref asl, .ref apl, .ref asw, .int (nI nw), .ref aor, .int (nI nc), .ref aon, .ref atw, .long mx, .long my, .ref aup, .ref alw, .int (nI ((mMo fon ftw mx my (fup, flw, 0)).2.2)), .long (lN (U / Nat.gcd U L)), .long (lN (L / Nat.gcd U L)), .long rx, .long ry])), (aon, .inl (cJ, 4, .inr (.inl fon))), (atw, .inl (cJ, 4, .inr (.inl ftw))), (aup, .inl (cJ, 12, .inr (.inl (mMo fon ftw mx my (fup, flw, 0)).1))), (alw, .inl (cJ, 12, .inr (.inl (mMo fon ftw mx my (fup, flw, 0)).2.1)))] : va_W) = [(om, .inr (5, [.int (nI cd), .int (nI ns), .ref apx, .ref apy, .ref act, .int (nI nb), .ref asd, .ref amv, .ref asl, .ref apl, .ref asw, .int (nI nw), .ref aor, .int (nI nc), .ref aon, .ref atw, .long mx, .long my, .ref aup, .ref alw, .int (nI ((mMo fon ftw mx my (fup, flw, 0)).2.2)), .long (mRu (mHitE fon ftw mx my (mMo fon ftw mx my (fup, flw, 0))) (mMo fon ftw mx my (fup, flw, 0))), .long (mRl (mHitE fon ftw mx my (mMo fon ftw mx my (fup, flw, 0))) (mMo fon ftw mx my (fup, flw, 0))), .long rx, .long ry])), (aon, .inl (cJ, 4, .inr (.inl fon))), (atw, .inl (cJ, 4, .inr (.inl ftw))), (aup, .inl (cJ, 12, .inr (.inl (mMo fon ftw mx my (fup, flw, 0)).1))), (alw, .inl (cJ, 12, .inr (.inl (mMo fon ftw mx my (fup, flw, 0)).2.1)))] := by rw [hq0, hq1]
          rw [hw] at hP hD
          exact kEz hx hb hr hlocks hP hK hD hS dX5_isFound_179 (kp1 ⟨k, c23, hhit⟩)
        · replace c154 := bI_0 c154; replace c154 := pB_not c154
          refine lv_iload hx hb dX5_isFound_157 (lv_at hl 0 rfl) ?_
          refine lv_if_eq (tgt := 180) hx hb dX5_isFound_159 (by decide) (fun c159 => ?_) (fun c159 => ?_)
          · rw [← nI_0, nI_eq (by omega) (by omega)] at c159
            refine lv_iinc (v := (nI (k + 1))) (lv' := [(2, .int (nI (k + 1))), (4, .int (nI 0)), (3, .int (bI (pB (mComE (fon 0) (fon 2) (ftw 0) (ftw 2) mx ((mMo fon ftw mx my (fup, flw, 0)).1 k) ((mMo fon ftw mx my (fup, flw, 0)).2.1 k) ∧ mComE (fon 1) (fon 3) (ftw 1) (ftw 3) my ((mMo fon ftw mx my (fup, flw, 0)).1 k) ((mMo fon ftw mx my (fup, flw, 0)).2.1 k))))), (0, .ref om), (1, .int (bI false))]) hx hb dX5_isFound_180 hl (k := 4) rfl (show (nI k) + Int32.ofInt 1 = nI (k + 1) from nI_add k 1) (by decide) rfl (fun ls hl => ?_)
            refine lv_goto (tgt := 18) hx hb dX5_isFound_183 (by decide) ?_
            exact ih18 (k + 1) _ _ _ ⟨hP, hD, hS, lv_sub hl [3, 4, 0] rfl, ⟨by omega, fun j hj => by rcases Nat.lt_or_ge j k with h | h; exact hno j h; rw [show j = k by omega]; exact (fun z => z.elim c154 (fun w => by first | exact absurd w.1 (by omega) | exact w.2.1 c85 | exact c143 w.2.2))⟩⟩ (by simp only []; omega)
          · skip
            exact absurd c159 (by decide)
      · rw [nI_leI (by omega) (by omega), Nat.not_le] at c51
        refine lv_aload_n hx hb dX5_isFound_54 rfl (lv_at hl 1 rfl) ?_
        refine va_get (D := (dC, dI)) (ci := 5) (v := .ref aup) (C := RX5) (T := TX5) (N := 25) hx hb hts hi5 hown hK hP 0 rfl rfl 18 (by decide) f45 (fun _ h9 => h9) rfl dX5_isFound_55 ?_
        refine lv_iload_n hx hb dX5_isFound_58 rfl (lv_at hl 3 rfl) ?_
        refine va_lald hx hb hK hP 3 0 rfl rfl (vp_in_nI (show k < 12 by omega) (by omega)) dX5_isFound_59 ?_
        rw [show (nI k).toNatClampNeg = k from nI_clamp (show k < 2 ^ 31 by omega)]
        refine lv_aload_n hx hb dX5_isFound_60 rfl (lv_at hl 1 rfl) ?_
        refine va_get (D := (dC, dI)) (ci := 5) (v := .ref alw) (C := RX5) (T := TX5) (N := 25) hx hb hts hi5 hown hK hP 0 rfl rfl 19 (by decide) f48 (fun _ h9 => h9) rfl dX5_isFound_61 ?_
        refine lv_iload_n hx hb dX5_isFound_64 rfl (lv_at hl 3 rfl) ?_
        refine lv_iconst (v := (nI 1)) hx hb dX5_isFound_65 (by decide) ?_
        refine lv_iadd hx hb dX5_isFound_66 ?_
        rw [show (nI k) + (nI 1) = (nI (k + 1)) from nI_add k 1]
        refine va_lald hx hb hK hP 4 0 rfl rfl (vp_in_nI (show (k + 1) < 12 by omega) (by omega)) dX5_isFound_67 ?_
        rw [show (nI (k + 1)).toNatClampNeg = (k + 1) from nI_clamp (show (k + 1) < 2 ^ 31 by omega)]
        refine lv_lmul hx hb dX5_isFound_68 ?_
        refine lv_aload_n hx hb dX5_isFound_69 rfl (lv_at hl 1 rfl) ?_
        refine va_get (D := (dC, dI)) (ci := 5) (v := .ref aup) (C := RX5) (T := TX5) (N := 25) hx hb hts hi5 hown hK hP 0 rfl rfl 18 (by decide) f45 (fun _ h9 => h9) rfl dX5_isFound_70 ?_
        refine lv_iload_n hx hb dX5_isFound_73 rfl (lv_at hl 3 rfl) ?_
        refine lv_iconst (v := (nI 1)) hx hb dX5_isFound_74 (by decide) ?_
        refine lv_iadd hx hb dX5_isFound_75 ?_
        rw [show (nI k) + (nI 1) = (nI (k + 1)) from nI_add k 1]
        refine va_lald hx hb hK hP 3 0 rfl rfl (vp_in_nI (show (k + 1) < 12 by omega) (by omega)) dX5_isFound_76 ?_
        rw [show (nI (k + 1)).toNatClampNeg = (k + 1) from nI_clamp (show (k + 1) < 2 ^ 31 by omega)]
        refine lv_aload_n hx hb dX5_isFound_77 rfl (lv_at hl 1 rfl) ?_
        refine va_get (D := (dC, dI)) (ci := 5) (v := .ref alw) (C := RX5) (T := TX5) (N := 25) hx hb hts hi5 hown hK hP 0 rfl rfl 19 (by decide) f48 (fun _ h9 => h9) rfl dX5_isFound_78 ?_
        refine lv_iload_n hx hb dX5_isFound_81 rfl (lv_at hl 3 rfl) ?_
        refine va_lald hx hb hK hP 4 0 rfl rfl (vp_in_nI (show k < 12 by omega) (by omega)) dX5_isFound_82 ?_
        rw [show (nI k).toNatClampNeg = k from nI_clamp (show k < 2 ^ 31 by omega)]
        refine lv_lmul hx hb dX5_isFound_83 ?_
        refine W.lcmp hx hb dX5_isFound_84 ?_
        refine lv_if_eq (tgt := 150) hx hb dX5_isFound_85 (by decide) (fun c85 => ?_) (fun c85 => ?_)
        · rw [lg_cmp_eq] at c85
          refine lv_iconst (v := (nI 0)) hx hb dX5_isFound_150 (by decide) ?_
          refine lv_istore (lv' := [(4, .int (nI 0)), (3, .int (bI (pB (mComE (fon 0) (fon 2) (ftw 0) (ftw 2) mx ((mMo fon ftw mx my (fup, flw, 0)).1 k) ((mMo fon ftw mx my (fup, flw, 0)).2.1 k) ∧ mComE (fon 1) (fon 3) (ftw 1) (ftw 3) my ((mMo fon ftw mx my (fup, flw, 0)).1 k) ((mMo fon ftw mx my (fup, flw, 0)).2.1 k))))), (0, .ref om), (1, .int (bI false)), (2, .int (nI k))]) hx hb dX5_isFound_151 hl (by decide) rfl (fun ls hl => ?_)
          refine lv_iload_n hx hb dX5_isFound_153 rfl (lv_at hl 1 rfl) ?_
          refine lv_if_ne (tgt := 162) hx hb dX5_isFound_154 (by decide) (fun c154 => ?_) (fun c154 => ?_)
          · replace c154 := bI_n c154; replace c154 := pB_iff.mp c154
            refine lv_aload_n hx hb dX5_isFound_162 rfl (lv_at hl 2 rfl) ?_
            refine lv_aload_n hx hb dX5_isFound_163 rfl (lv_at hl 2 rfl) ?_
            refine va_get (D := (dC, dI)) (ci := 5) (v := .ref aup) (C := RX5) (T := TX5) (N := 25) hx hb hts hi5 hown hK hP 0 rfl rfl 18 (by decide) f45 (fun _ h9 => h9) rfl dX5_isFound_164 ?_
            refine lv_iload_n hx hb dX5_isFound_167 rfl (lv_at hl 4 rfl) ?_
            refine va_lald hx hb hK hP 3 0 rfl rfl (vp_in_nI (show k < 12 by omega) (by omega)) dX5_isFound_168 ?_
            rw [show (nI k).toNatClampNeg = k from nI_clamp (show k < 2 ^ 31 by omega)]
            refine lv_aload_n hx hb dX5_isFound_169 rfl (lv_at hl 2 rfl) ?_
            refine va_get (D := (dC, dI)) (ci := 5) (v := .ref alw) (C := RX5) (T := TX5) (N := 25) hx hb hts hi5 hown hK hP 0 rfl rfl 19 (by decide) f48 (fun _ h9 => h9) rfl dX5_isFound_170 ?_
            refine lv_iload_n hx hb dX5_isFound_173 rfl (lv_at hl 4 rfl) ?_
            refine va_lald hx hb hK hP 4 0 rfl rfl (vp_in_nI (show k < 12 by omega) (by omega)) dX5_isFound_174 ?_
            rw [show (nI k).toNatClampNeg = k from nI_clamp (show k < 2 ^ 31 by omega)]
            obtain ⟨U, hU, eU⟩ := pk_lOf (Int64.not_lt.mpr (hgood k c23).1)
            obtain ⟨L, hL, eL⟩ := pk_lOf (Int64.not_lt.mpr (Int64.le_of_lt (hgood k c23).2))
            have hL0 : 0 < L := Nat.pos_of_ne_zero (fun h => absurd (hgood k c23).2 (by rw [eL, h]; decide))
            rw [show (mMo fon ftw mx my (fup, flw, 0)).1 k = lN U from eU, show (mMo fon ftw mx my (fup, flw, 0)).2.1 k = lN L from eL]
            refine kmVv (q0 := 0) (ci := 5) (As := [.long (lN U), .long (lN L)]) (rest := []) (WC := [(om, .inr (5, [.int (nI cd), .int (nI ns), .ref apx, .ref apy, .ref act, .int (nI nb), .ref asd, .ref amv, .ref asl, .ref apl, .ref asw, .int (nI nw), .ref aor, .int (nI nc), .ref aon, .ref atw, .long mx, .long my, .ref aup, .ref alw, .int (nI ((mMo fon ftw mx my (fup, flw, 0)).2.2)), .long (-1), .long 1, .long rx, .long ry]))]) (W2 := [(om, .inr (5, [.int (nI cd), .int (nI ns), .ref apx, .ref apy, .ref act, .int (nI nb), .ref asd, .ref amv, .ref asl, .ref apl, .ref asw, .int (nI nw), .ref aor, .int (nI nc), .ref aon, .ref atw, .long mx, .long my, .ref aup, .ref alw, .int (nI ((mMo fon ftw mx my (fup, flw, 0)).2.2)), .long (lN (U / Nat.gcd U L)), .long (lN (L / Nat.gcd U L)), .long rx, .long ry]))]) (WR := [(aon, .inl (cJ, 4, .inr (.inl fon))), (atw, .inl (cJ, 4, .inr (.inl ftw))), (aup, .inl (cJ, 12, .inr (.inl (mMo fon ftw mx my (fup, flw, 0)).1))), (alw, .inl (cJ, 12, .inr (.inl (mMo fon ftw mx my (fup, flw, 0)).2.1)))]) (WN := [(om, .inr (5, [.int (nI cd), .int (nI ns), .ref apx, .ref apy, .ref act, .int (nI nb), .ref asd, .ref amv, .ref asl, .ref apl, .ref asw, .int (nI nw), .ref aor, .int (nI nc), .ref aon, .ref atw, .long mx, .long my, .ref aup, .ref alw, .int (nI ((mMo fon ftw mx my (fup, flw, 0)).2.2)), .long (lN (U / Nat.gcd U L)), .long (lN (L / Nat.gcd U L)), .long rx, .long ry])), (aon, .inl (cJ, 4, .inr (.inl fon))), (atw, .inl (cJ, 4, .inr (.inl ftw))), (aup, .inl (cJ, 12, .inr (.inl (mMo fon ftw mx my (fup, flw, 0)).1))), (alw, .inl (cJ, 12, .inr (.inl (mMo fon ftw mx my (fup, flw, 0)).2.1)))]) (tyC := [(cJ, .long), (cI, .int), (cZ, .boolean)]) (isC := [0]) (isR := [1, 2, 3, 4]) (isN := [4, 0, 1, 2, 3]) (its := [0, 1, 2]) ⟨hx, hb, hml, hown, hts⟩ (tX5_tell l dC dI cJ cI cZ om cd ns apx apy act nb asd amv asl apl asw nw aor nc aon atw aup alw ((mMo fon ftw mx my (fup, flw, 0)).2.2) mx my (-1) 1 rx ry U L (by omega) (by omega) (by omega)) (cwV 2 hts gX5_isFound_X5_tell rfl rfl rfl (by decide +kernel) ⟨Nat.le_of_ble_eq_true rfl, Nat.le_of_ble_eq_true rfl⟩) hP hD hA hS hK rfl (by decide) rfl (by decide) (by decide) rfl (by decide) rfl rfl rfl rfl rfl hl.1 (Nat.le_of_ble_eq_true rfl) dX5_isFound_175 ⟨Nat.le_of_ble_eq_true rfl, Nat.le_of_ble_eq_true rfl⟩ (fun H locs hP hD hS => ?_)
            refine lv_iconst (v := (nI 1)) hx hb dX5_isFound_178 (by decide) ?_
            have hhit : (mHitE fon ftw mx my (mMo fon ftw mx my (fup, flw, 0))) k := by first | exact Or.inl c154 | exact Or.inr ⟨c51, c85, c143⟩
            have hq0 : (mRu (mHitE fon ftw mx my (mMo fon ftw mx my (fup, flw, 0))) (mMo fon ftw mx my (fup, flw, 0))) = (lN (U / Nat.gcd U L)) := (by first | (rw [mRu_s (q := (mMo fon ftw mx my (fup, flw, 0))) c23 hhit hno, show (mMo fon ftw mx my (fup, flw, 0)).1 k = lN U from eU, show (mMo fon ftw mx my (fup, flw, 0)).2.1 k = lN L from eL]; exact mTu_N hU hL) | (rw [mRl_s (q := (mMo fon ftw mx my (fup, flw, 0))) c23 hhit hno, show (mMo fon ftw mx my (fup, flw, 0)).1 k = lN U from eU, show (mMo fon ftw mx my (fup, flw, 0)).2.1 k = lN L from eL]; exact mTl_N hU hL))
            have hq1 : (mRl (mHitE fon ftw mx my (mMo fon ftw mx my (fup, flw, 0))) (mMo fon ftw mx my (fup, flw, 0))) = (lN (L / Nat.gcd U L)) := (by first | (rw [mRu_s (q := (mMo fon ftw mx my (fup, flw, 0))) c23 hhit hno, show (mMo fon ftw mx my (fup, flw, 0)).1 k = lN U from eU, show (mMo fon ftw mx my (fup, flw, 0)).2.1 k = lN L from eL]; exact mTu_N hU hL) | (rw [mRl_s (q := (mMo fon ftw mx my (fup, flw, 0))) c23 hhit hno, show (mMo fon ftw mx my (fup, flw, 0)).1 k = lN U from eU, show (mMo fon ftw mx my (fup, flw, 0)).2.1 k = lN L from eL]; exact mTl_N hU hL))
            have hw : ([(om, .inr (5, [.int (nI cd), .int (nI ns), .ref apx, .ref apy, .ref act, .int (nI nb), .ref asd, .ref amv, .ref asl, .ref apl, .ref asw, .int (nI nw), .ref aor, .int (nI nc), .ref aon, .ref atw, .long mx, .long my, .ref aup, .ref alw, .int (nI ((mMo fon ftw mx my (fup, flw, 0)).2.2)), .long (lN (U / Nat.gcd U L)), .long (lN (L / Nat.gcd U L)), .long rx, .long ry])), (aon, .inl (cJ, 4, .inr (.inl fon))), (atw, .inl (cJ, 4, .inr (.inl ftw))), (aup, .inl (cJ, 12, .inr (.inl (mMo fon ftw mx my (fup, flw, 0)).1))), (alw, .inl (cJ, 12, .inr (.inl (mMo fon ftw mx my (fup, flw, 0)).2.1)))] : va_W) = [(om, .inr (5, [.int (nI cd), .int (nI ns), .ref apx, .ref apy, .ref act, .int (nI nb), .ref asd, .ref amv, .ref asl, .ref apl, .ref asw, .int (nI nw), .ref aor, .int (nI nc), .ref aon, .ref atw, .long mx, .long my, .ref aup, .ref alw, .int (nI ((mMo fon ftw mx my (fup, flw, 0)).2.2)), .long (mRu (mHitE fon ftw mx my (mMo fon ftw mx my (fup, flw, 0))) (mMo fon ftw mx my (fup, flw, 0))), .long (mRl (mHitE fon ftw mx my (mMo fon ftw mx my (fup, flw, 0))) (mMo fon ftw mx my (fup, flw, 0))), .long rx, .long ry])), (aon, .inl (cJ, 4, .inr (.inl fon))), (atw, .inl (cJ, 4, .inr (.inl ftw))), (aup, .inl (cJ, 12, .inr (.inl (mMo fon ftw mx my (fup, flw, 0)).1))), (alw, .inl (cJ, 12, .inr (.inl (mMo fon ftw mx my (fup, flw, 0)).2.1)))] := by rw [hq0, hq1]
            rw [hw] at hP hD
            exact kEz hx hb hr hlocks hP hK hD hS dX5_isFound_179 (kp1 ⟨k, c23, hhit⟩)
          · replace c154 := bI_0 c154; replace c154 := pB_not c154
            refine lv_iload hx hb dX5_isFound_157 (lv_at hl 0 rfl) ?_
            refine lv_if_eq (tgt := 180) hx hb dX5_isFound_159 (by decide) (fun c159 => ?_) (fun c159 => ?_)
            · rw [← nI_0, nI_eq (by omega) (by omega)] at c159
              refine lv_iinc (v := (nI (k + 1))) (lv' := [(2, .int (nI (k + 1))), (4, .int (nI 0)), (3, .int (bI (pB (mComE (fon 0) (fon 2) (ftw 0) (ftw 2) mx ((mMo fon ftw mx my (fup, flw, 0)).1 k) ((mMo fon ftw mx my (fup, flw, 0)).2.1 k) ∧ mComE (fon 1) (fon 3) (ftw 1) (ftw 3) my ((mMo fon ftw mx my (fup, flw, 0)).1 k) ((mMo fon ftw mx my (fup, flw, 0)).2.1 k))))), (0, .ref om), (1, .int (bI false))]) hx hb dX5_isFound_180 hl (k := 4) rfl (show (nI k) + Int32.ofInt 1 = nI (k + 1) from nI_add k 1) (by decide) rfl (fun ls hl => ?_)
              refine lv_goto (tgt := 18) hx hb dX5_isFound_183 (by decide) ?_
              exact ih18 (k + 1) _ _ _ ⟨hP, hD, hS, lv_sub hl [3, 4, 0] rfl, ⟨by omega, fun j hj => by rcases Nat.lt_or_ge j k with h | h; exact hno j h; rw [show j = k by omega]; exact (fun z => z.elim c154 (fun w => by first | exact absurd w.1 (by omega) | exact w.2.1 c85 | exact c143 w.2.2))⟩⟩ (by simp only []; omega)
            · skip
              exact absurd c159 (by decide)
        · rw [lg_cmp_eq] at c85
          refine lv_aload_n hx hb dX5_isFound_88 rfl (lv_at hl 1 rfl) ?_
          refine lv_aload_n hx hb dX5_isFound_89 rfl (lv_at hl 1 rfl) ?_
          refine va_get (D := (dC, dI)) (ci := 5) (v := .ref aup) (C := RX5) (T := TX5) (N := 25) hx hb hts hi5 hown hK hP 0 rfl rfl 18 (by decide) f45 (fun _ h9 => h9) rfl dX5_isFound_90 ?_
          refine lv_iload_n hx hb dX5_isFound_93 rfl (lv_at hl 3 rfl) ?_
          refine va_lald hx hb hK hP 3 0 rfl rfl (vp_in_nI (show k < 12 by omega) (by omega)) dX5_isFound_94 ?_
          rw [show (nI k).toNatClampNeg = k from nI_clamp (show k < 2 ^ 31 by omega)]
          refine lv_aload_n hx hb dX5_isFound_95 rfl (lv_at hl 1 rfl) ?_
          refine va_get (D := (dC, dI)) (ci := 5) (v := .ref alw) (C := RX5) (T := TX5) (N := 25) hx hb hts hi5 hown hK hP 0 rfl rfl 19 (by decide) f48 (fun _ h9 => h9) rfl dX5_isFound_96 ?_
          refine lv_iload_n hx hb dX5_isFound_99 rfl (lv_at hl 3 rfl) ?_
          refine lv_iconst (v := (nI 1)) hx hb dX5_isFound_100 (by decide) ?_
          refine lv_iadd hx hb dX5_isFound_101 ?_
          rw [show (nI k) + (nI 1) = (nI (k + 1)) from nI_add k 1]
          refine va_lald hx hb hK hP 4 0 rfl rfl (vp_in_nI (show (k + 1) < 12 by omega) (by omega)) dX5_isFound_102 ?_
          rw [show (nI (k + 1)).toNatClampNeg = (k + 1) from nI_clamp (show (k + 1) < 2 ^ 31 by omega)]
          refine lv_lmul hx hb dX5_isFound_103 ?_
          refine lv_aload_n hx hb dX5_isFound_104 rfl (lv_at hl 1 rfl) ?_
          refine va_get (D := (dC, dI)) (ci := 5) (v := .ref aup) (C := RX5) (T := TX5) (N := 25) hx hb hts hi5 hown hK hP 0 rfl rfl 18 (by decide) f45 (fun _ h9 => h9) rfl dX5_isFound_105 ?_
          refine lv_iload_n hx hb dX5_isFound_108 rfl (lv_at hl 3 rfl) ?_
          refine lv_iconst (v := (nI 1)) hx hb dX5_isFound_109 (by decide) ?_
          refine lv_iadd hx hb dX5_isFound_110 ?_
          rw [show (nI k) + (nI 1) = (nI (k + 1)) from nI_add k 1]
          refine va_lald hx hb hK hP 3 0 rfl rfl (vp_in_nI (show (k + 1) < 12 by omega) (by omega)) dX5_isFound_111 ?_
          rw [show (nI (k + 1)).toNatClampNeg = (k + 1) from nI_clamp (show (k + 1) < 2 ^ 31 by omega)]
          refine lv_aload_n hx hb dX5_isFound_112 rfl (lv_at hl 1 rfl) ?_
          refine va_get (D := (dC, dI)) (ci := 5) (v := .ref alw) (C := RX5) (T := TX5) (N := 25) hx hb hts hi5 hown hK hP 0 rfl rfl 19 (by decide) f48 (fun _ h9 => h9) rfl dX5_isFound_113 ?_
          refine lv_iload_n hx hb dX5_isFound_116 rfl (lv_at hl 3 rfl) ?_
          refine va_lald hx hb hK hP 4 0 rfl rfl (vp_in_nI (show k < 12 by omega) (by omega)) dX5_isFound_117 ?_
          rw [show (nI k).toNatClampNeg = k from nI_clamp (show k < 2 ^ 31 by omega)]
          refine lv_lmul hx hb dX5_isFound_118 ?_
          refine lv_ladd hx hb dX5_isFound_119 ?_
          refine lv_ldc2 hx hb hown (hts (.constantLong RX5 160 (2)) (by decide +kernel)) dX5_isFound_120 ?_
          refine lv_aload_n hx hb dX5_isFound_123 rfl (lv_at hl 1 rfl) ?_
          refine va_get (D := (dC, dI)) (ci := 5) (v := .ref alw) (C := RX5) (T := TX5) (N := 25) hx hb hts hi5 hown hK hP 0 rfl rfl 19 (by decide) f48 (fun _ h9 => h9) rfl dX5_isFound_124 ?_
          refine lv_iload_n hx hb dX5_isFound_127 rfl (lv_at hl 3 rfl) ?_
          refine va_lald hx hb hK hP 4 0 rfl rfl (vp_in_nI (show k < 12 by omega) (by omega)) dX5_isFound_128 ?_
          rw [show (nI k).toNatClampNeg = k from nI_clamp (show k < 2 ^ 31 by omega)]
          refine lv_lmul hx hb dX5_isFound_129 ?_
          refine lv_aload_n hx hb dX5_isFound_130 rfl (lv_at hl 1 rfl) ?_
          refine va_get (D := (dC, dI)) (ci := 5) (v := .ref alw) (C := RX5) (T := TX5) (N := 25) hx hb hts hi5 hown hK hP 0 rfl rfl 19 (by decide) f48 (fun _ h9 => h9) rfl dX5_isFound_131 ?_
          refine lv_iload_n hx hb dX5_isFound_134 rfl (lv_at hl 3 rfl) ?_
          refine lv_iconst (v := (nI 1)) hx hb dX5_isFound_135 (by decide) ?_
          refine lv_iadd hx hb dX5_isFound_136 ?_
          rw [show (nI k) + (nI 1) = (nI (k + 1)) from nI_add k 1]
          refine va_lald hx hb hK hP 4 0 rfl rfl (vp_in_nI (show (k + 1) < 12 by omega) (by omega)) dX5_isFound_137 ?_
          rw [show (nI (k + 1)).toNatClampNeg = (k + 1) from nI_clamp (show (k + 1) < 2 ^ 31 by omega)]
          refine lv_lmul hx hb dX5_isFound_138 ?_
          refine lv_iload_n hx hb dX5_isFound_139 rfl (lv_at hl 2 rfl) ?_
          refine kpVi (q0 := 0) (ci := 5) (As := [.long ((((mMo fon ftw mx my (fup, flw, 0)).1 k) * ((mMo fon ftw mx my (fup, flw, 0)).2.1 ((k + 1)))) + (((mMo fon ftw mx my (fup, flw, 0)).1 ((k + 1))) * ((mMo fon ftw mx my (fup, flw, 0)).2.1 k))), .long ((2 * ((mMo fon ftw mx my (fup, flw, 0)).2.1 k)) * ((mMo fon ftw mx my (fup, flw, 0)).2.1 ((k + 1)))), .int (bI false)]) (rest := []) (WC := [(om, .inr (5, [.int (nI cd), .int (nI ns), .ref apx, .ref apy, .ref act, .int (nI nb), .ref asd, .ref amv, .ref asl, .ref apl, .ref asw, .int (nI nw), .ref aor, .int (nI nc), .ref aon, .ref atw, .long mx, .long my, .ref aup, .ref alw, .int (nI ((mMo fon ftw mx my (fup, flw, 0)).2.2)), .long (-1), .long 1, .long rx, .long ry])), (aon, .inl (cJ, 4, .inr (.inl fon))), (atw, .inl (cJ, 4, .inr (.inl ftw)))]) (tyC := [(cJ, .long), (cI, .int), (cZ, .boolean)]) ⟨hx, hb, hml, hown, hts⟩ (tX5_isAt_f l dC dI cJ cI cZ om cd ns apx apy act nb asd amv asl apl asw nw aor nc aon atw aup alw ((mMo fon ftw mx my (fup, flw, 0)).2.2) mx my (-1) 1 rx ry fon ftw ((((mMo fon ftw mx my (fup, flw, 0)).1 k) * ((mMo fon ftw mx my (fup, flw, 0)).2.1 ((k + 1)))) + (((mMo fon ftw mx my (fup, flw, 0)).1 ((k + 1))) * ((mMo fon ftw mx my (fup, flw, 0)).2.1 k))) ((2 * ((mMo fon ftw mx my (fup, flw, 0)).2.1 k)) * ((mMo fon ftw mx my (fup, flw, 0)).2.1 ((k + 1))))) (cwV 3 hts gX5_isFound_X5_isAt rfl rfl rfl (by decide +kernel) ⟨Nat.le_of_ble_eq_true rfl, Nat.le_of_ble_eq_true rfl⟩) (kPick (isC := [0, 1, 2]) hP rfl) (hK.sub [0, 1, 2] rfl) rfl rfl rfl rfl hl.1 (Nat.le_of_ble_eq_true rfl) dX5_isFound_140 ⟨Nat.le_of_ble_eq_true rfl, Nat.le_of_ble_eq_true rfl⟩ ?_
          refine lv_if_eq (tgt := 150) hx hb dX5_isFound_143 (by decide) (fun c143 => ?_) (fun c143 => ?_)
          · replace c143 := bI_0 c143; replace c143 := pB_not c143
            refine lv_iconst (v := (nI 0)) hx hb dX5_isFound_150 (by decide) ?_
            refine lv_istore (lv' := [(4, .int (nI 0)), (3, .int (bI (pB (mComE (fon 0) (fon 2) (ftw 0) (ftw 2) mx ((mMo fon ftw mx my (fup, flw, 0)).1 k) ((mMo fon ftw mx my (fup, flw, 0)).2.1 k) ∧ mComE (fon 1) (fon 3) (ftw 1) (ftw 3) my ((mMo fon ftw mx my (fup, flw, 0)).1 k) ((mMo fon ftw mx my (fup, flw, 0)).2.1 k))))), (0, .ref om), (1, .int (bI false)), (2, .int (nI k))]) hx hb dX5_isFound_151 hl (by decide) rfl (fun ls hl => ?_)
            refine lv_iload_n hx hb dX5_isFound_153 rfl (lv_at hl 1 rfl) ?_
            refine lv_if_ne (tgt := 162) hx hb dX5_isFound_154 (by decide) (fun c154 => ?_) (fun c154 => ?_)
            · replace c154 := bI_n c154; replace c154 := pB_iff.mp c154
              refine lv_aload_n hx hb dX5_isFound_162 rfl (lv_at hl 2 rfl) ?_
              refine lv_aload_n hx hb dX5_isFound_163 rfl (lv_at hl 2 rfl) ?_
              refine va_get (D := (dC, dI)) (ci := 5) (v := .ref aup) (C := RX5) (T := TX5) (N := 25) hx hb hts hi5 hown hK hP 0 rfl rfl 18 (by decide) f45 (fun _ h9 => h9) rfl dX5_isFound_164 ?_
              refine lv_iload_n hx hb dX5_isFound_167 rfl (lv_at hl 4 rfl) ?_
              refine va_lald hx hb hK hP 3 0 rfl rfl (vp_in_nI (show k < 12 by omega) (by omega)) dX5_isFound_168 ?_
              rw [show (nI k).toNatClampNeg = k from nI_clamp (show k < 2 ^ 31 by omega)]
              refine lv_aload_n hx hb dX5_isFound_169 rfl (lv_at hl 2 rfl) ?_
              refine va_get (D := (dC, dI)) (ci := 5) (v := .ref alw) (C := RX5) (T := TX5) (N := 25) hx hb hts hi5 hown hK hP 0 rfl rfl 19 (by decide) f48 (fun _ h9 => h9) rfl dX5_isFound_170 ?_
              refine lv_iload_n hx hb dX5_isFound_173 rfl (lv_at hl 4 rfl) ?_
              refine va_lald hx hb hK hP 4 0 rfl rfl (vp_in_nI (show k < 12 by omega) (by omega)) dX5_isFound_174 ?_
              rw [show (nI k).toNatClampNeg = k from nI_clamp (show k < 2 ^ 31 by omega)]
              obtain ⟨U, hU, eU⟩ := pk_lOf (Int64.not_lt.mpr (hgood k c23).1)
              obtain ⟨L, hL, eL⟩ := pk_lOf (Int64.not_lt.mpr (Int64.le_of_lt (hgood k c23).2))
              have hL0 : 0 < L := Nat.pos_of_ne_zero (fun h => absurd (hgood k c23).2 (by rw [eL, h]; decide))
              rw [show (mMo fon ftw mx my (fup, flw, 0)).1 k = lN U from eU, show (mMo fon ftw mx my (fup, flw, 0)).2.1 k = lN L from eL]
              refine kmVv (q0 := 0) (ci := 5) (As := [.long (lN U), .long (lN L)]) (rest := []) (WC := [(om, .inr (5, [.int (nI cd), .int (nI ns), .ref apx, .ref apy, .ref act, .int (nI nb), .ref asd, .ref amv, .ref asl, .ref apl, .ref asw, .int (nI nw), .ref aor, .int (nI nc), .ref aon, .ref atw, .long mx, .long my, .ref aup, .ref alw, .int (nI ((mMo fon ftw mx my (fup, flw, 0)).2.2)), .long (-1), .long 1, .long rx, .long ry]))]) (W2 := [(om, .inr (5, [.int (nI cd), .int (nI ns), .ref apx, .ref apy, .ref act, .int (nI nb), .ref asd, .ref amv, .ref asl, .ref apl, .ref asw, .int (nI nw), .ref aor, .int (nI nc), .ref aon, .ref atw, .long mx, .long my, .ref aup, .ref alw, .int (nI ((mMo fon ftw mx my (fup, flw, 0)).2.2)), .long (lN (U / Nat.gcd U L)), .long (lN (L / Nat.gcd U L)), .long rx, .long ry]))]) (WR := [(aon, .inl (cJ, 4, .inr (.inl fon))), (atw, .inl (cJ, 4, .inr (.inl ftw))), (aup, .inl (cJ, 12, .inr (.inl (mMo fon ftw mx my (fup, flw, 0)).1))), (alw, .inl (cJ, 12, .inr (.inl (mMo fon ftw mx my (fup, flw, 0)).2.1)))]) (WN := [(om, .inr (5, [.int (nI cd), .int (nI ns), .ref apx, .ref apy, .ref act, .int (nI nb), .ref asd, .ref amv, .ref asl, .ref apl, .ref asw, .int (nI nw), .ref aor, .int (nI nc), .ref aon, .ref atw, .long mx, .long my, .ref aup, .ref alw, .int (nI ((mMo fon ftw mx my (fup, flw, 0)).2.2)), .long (lN (U / Nat.gcd U L)), .long (lN (L / Nat.gcd U L)), .long rx, .long ry])), (aon, .inl (cJ, 4, .inr (.inl fon))), (atw, .inl (cJ, 4, .inr (.inl ftw))), (aup, .inl (cJ, 12, .inr (.inl (mMo fon ftw mx my (fup, flw, 0)).1))), (alw, .inl (cJ, 12, .inr (.inl (mMo fon ftw mx my (fup, flw, 0)).2.1)))]) (tyC := [(cJ, .long), (cI, .int), (cZ, .boolean)]) (isC := [0]) (isR := [1, 2, 3, 4]) (isN := [4, 0, 1, 2, 3]) (its := [0, 1, 2]) ⟨hx, hb, hml, hown, hts⟩ (tX5_tell l dC dI cJ cI cZ om cd ns apx apy act nb asd amv asl apl asw nw aor nc aon atw aup alw ((mMo fon ftw mx my (fup, flw, 0)).2.2) mx my (-1) 1 rx ry U L (by omega) (by omega) (by omega)) (cwV 2 hts gX5_isFound_X5_tell rfl rfl rfl (by decide +kernel) ⟨Nat.le_of_ble_eq_true rfl, Nat.le_of_ble_eq_true rfl⟩) hP hD hA hS hK rfl (by decide) rfl (by decide) (by decide) rfl (by decide) rfl rfl rfl rfl rfl hl.1 (Nat.le_of_ble_eq_true rfl) dX5_isFound_175 ⟨Nat.le_of_ble_eq_true rfl, Nat.le_of_ble_eq_true rfl⟩ (fun H locs hP hD hS => ?_)
              refine lv_iconst (v := (nI 1)) hx hb dX5_isFound_178 (by decide) ?_
              have hhit : (mHitE fon ftw mx my (mMo fon ftw mx my (fup, flw, 0))) k := by first | exact Or.inl c154 | exact Or.inr ⟨c51, c85, c143⟩
              have hq0 : (mRu (mHitE fon ftw mx my (mMo fon ftw mx my (fup, flw, 0))) (mMo fon ftw mx my (fup, flw, 0))) = (lN (U / Nat.gcd U L)) := (by first | (rw [mRu_s (q := (mMo fon ftw mx my (fup, flw, 0))) c23 hhit hno, show (mMo fon ftw mx my (fup, flw, 0)).1 k = lN U from eU, show (mMo fon ftw mx my (fup, flw, 0)).2.1 k = lN L from eL]; exact mTu_N hU hL) | (rw [mRl_s (q := (mMo fon ftw mx my (fup, flw, 0))) c23 hhit hno, show (mMo fon ftw mx my (fup, flw, 0)).1 k = lN U from eU, show (mMo fon ftw mx my (fup, flw, 0)).2.1 k = lN L from eL]; exact mTl_N hU hL))
              have hq1 : (mRl (mHitE fon ftw mx my (mMo fon ftw mx my (fup, flw, 0))) (mMo fon ftw mx my (fup, flw, 0))) = (lN (L / Nat.gcd U L)) := (by first | (rw [mRu_s (q := (mMo fon ftw mx my (fup, flw, 0))) c23 hhit hno, show (mMo fon ftw mx my (fup, flw, 0)).1 k = lN U from eU, show (mMo fon ftw mx my (fup, flw, 0)).2.1 k = lN L from eL]; exact mTu_N hU hL) | (rw [mRl_s (q := (mMo fon ftw mx my (fup, flw, 0))) c23 hhit hno, show (mMo fon ftw mx my (fup, flw, 0)).1 k = lN U from eU, show (mMo fon ftw mx my (fup, flw, 0)).2.1 k = lN L from eL]; exact mTl_N hU hL))
              have hw : ([(om, .inr (5, [.int (nI cd), .int (nI ns), .ref apx, .ref apy, .ref act, .int (nI nb), .ref asd, .ref amv, .ref asl, .ref apl, .ref asw, .int (nI nw), .ref aor, .int (nI nc), .ref aon, .ref atw, .long mx, .long my, .ref aup, .ref alw, .int (nI ((mMo fon ftw mx my (fup, flw, 0)).2.2)), .long (lN (U / Nat.gcd U L)), .long (lN (L / Nat.gcd U L)), .long rx, .long ry])), (aon, .inl (cJ, 4, .inr (.inl fon))), (atw, .inl (cJ, 4, .inr (.inl ftw))), (aup, .inl (cJ, 12, .inr (.inl (mMo fon ftw mx my (fup, flw, 0)).1))), (alw, .inl (cJ, 12, .inr (.inl (mMo fon ftw mx my (fup, flw, 0)).2.1)))] : va_W) = [(om, .inr (5, [.int (nI cd), .int (nI ns), .ref apx, .ref apy, .ref act, .int (nI nb), .ref asd, .ref amv, .ref asl, .ref apl, .ref asw, .int (nI nw), .ref aor, .int (nI nc), .ref aon, .ref atw, .long mx, .long my, .ref aup, .ref alw, .int (nI ((mMo fon ftw mx my (fup, flw, 0)).2.2)), .long (mRu (mHitE fon ftw mx my (mMo fon ftw mx my (fup, flw, 0))) (mMo fon ftw mx my (fup, flw, 0))), .long (mRl (mHitE fon ftw mx my (mMo fon ftw mx my (fup, flw, 0))) (mMo fon ftw mx my (fup, flw, 0))), .long rx, .long ry])), (aon, .inl (cJ, 4, .inr (.inl fon))), (atw, .inl (cJ, 4, .inr (.inl ftw))), (aup, .inl (cJ, 12, .inr (.inl (mMo fon ftw mx my (fup, flw, 0)).1))), (alw, .inl (cJ, 12, .inr (.inl (mMo fon ftw mx my (fup, flw, 0)).2.1)))] := by rw [hq0, hq1]
              rw [hw] at hP hD
              exact kEz hx hb hr hlocks hP hK hD hS dX5_isFound_179 (kp1 ⟨k, c23, hhit⟩)
            · replace c154 := bI_0 c154; replace c154 := pB_not c154
              refine lv_iload hx hb dX5_isFound_157 (lv_at hl 0 rfl) ?_
              refine lv_if_eq (tgt := 180) hx hb dX5_isFound_159 (by decide) (fun c159 => ?_) (fun c159 => ?_)
              · rw [← nI_0, nI_eq (by omega) (by omega)] at c159
                refine lv_iinc (v := (nI (k + 1))) (lv' := [(2, .int (nI (k + 1))), (4, .int (nI 0)), (3, .int (bI (pB (mComE (fon 0) (fon 2) (ftw 0) (ftw 2) mx ((mMo fon ftw mx my (fup, flw, 0)).1 k) ((mMo fon ftw mx my (fup, flw, 0)).2.1 k) ∧ mComE (fon 1) (fon 3) (ftw 1) (ftw 3) my ((mMo fon ftw mx my (fup, flw, 0)).1 k) ((mMo fon ftw mx my (fup, flw, 0)).2.1 k))))), (0, .ref om), (1, .int (bI false))]) hx hb dX5_isFound_180 hl (k := 4) rfl (show (nI k) + Int32.ofInt 1 = nI (k + 1) from nI_add k 1) (by decide) rfl (fun ls hl => ?_)
                refine lv_goto (tgt := 18) hx hb dX5_isFound_183 (by decide) ?_
                exact ih18 (k + 1) _ _ _ ⟨hP, hD, hS, lv_sub hl [3, 4, 0] rfl, ⟨by omega, fun j hj => by rcases Nat.lt_or_ge j k with h | h; exact hno j h; rw [show j = k by omega]; exact (fun z => z.elim c154 (fun w => by first | exact absurd w.1 (by omega) | exact w.2.1 c85 | exact c143 w.2.2))⟩⟩ (by simp only []; omega)
              · skip
                exact absurd c159 (by decide)
          · replace c143 := bI_n c143; replace c143 := pB_iff.mp c143
            refine lv_iconst (v := (nI 1)) hx hb dX5_isFound_146 (by decide) ?_
            refine lv_goto (tgt := 151) hx hb dX5_isFound_147 (by decide) ?_
            refine lv_istore (lv' := [(4, .int (nI 1)), (3, .int (bI (pB (mComE (fon 0) (fon 2) (ftw 0) (ftw 2) mx ((mMo fon ftw mx my (fup, flw, 0)).1 k) ((mMo fon ftw mx my (fup, flw, 0)).2.1 k) ∧ mComE (fon 1) (fon 3) (ftw 1) (ftw 3) my ((mMo fon ftw mx my (fup, flw, 0)).1 k) ((mMo fon ftw mx my (fup, flw, 0)).2.1 k))))), (0, .ref om), (1, .int (bI false)), (2, .int (nI k))]) hx hb dX5_isFound_151 hl (by decide) rfl (fun ls hl => ?_)
            refine lv_iload_n hx hb dX5_isFound_153 rfl (lv_at hl 1 rfl) ?_
            refine lv_if_ne (tgt := 162) hx hb dX5_isFound_154 (by decide) (fun c154 => ?_) (fun c154 => ?_)
            · replace c154 := bI_n c154; replace c154 := pB_iff.mp c154
              refine lv_aload_n hx hb dX5_isFound_162 rfl (lv_at hl 2 rfl) ?_
              refine lv_aload_n hx hb dX5_isFound_163 rfl (lv_at hl 2 rfl) ?_
              refine va_get (D := (dC, dI)) (ci := 5) (v := .ref aup) (C := RX5) (T := TX5) (N := 25) hx hb hts hi5 hown hK hP 0 rfl rfl 18 (by decide) f45 (fun _ h9 => h9) rfl dX5_isFound_164 ?_
              refine lv_iload_n hx hb dX5_isFound_167 rfl (lv_at hl 4 rfl) ?_
              refine va_lald hx hb hK hP 3 0 rfl rfl (vp_in_nI (show k < 12 by omega) (by omega)) dX5_isFound_168 ?_
              rw [show (nI k).toNatClampNeg = k from nI_clamp (show k < 2 ^ 31 by omega)]
              refine lv_aload_n hx hb dX5_isFound_169 rfl (lv_at hl 2 rfl) ?_
              refine va_get (D := (dC, dI)) (ci := 5) (v := .ref alw) (C := RX5) (T := TX5) (N := 25) hx hb hts hi5 hown hK hP 0 rfl rfl 19 (by decide) f48 (fun _ h9 => h9) rfl dX5_isFound_170 ?_
              refine lv_iload_n hx hb dX5_isFound_173 rfl (lv_at hl 4 rfl) ?_
              refine va_lald hx hb hK hP 4 0 rfl rfl (vp_in_nI (show k < 12 by omega) (by omega)) dX5_isFound_174 ?_
              rw [show (nI k).toNatClampNeg = k from nI_clamp (show k < 2 ^ 31 by omega)]
              obtain ⟨U, hU, eU⟩ := pk_lOf (Int64.not_lt.mpr (hgood k c23).1)
              obtain ⟨L, hL, eL⟩ := pk_lOf (Int64.not_lt.mpr (Int64.le_of_lt (hgood k c23).2))
              have hL0 : 0 < L := Nat.pos_of_ne_zero (fun h => absurd (hgood k c23).2 (by rw [eL, h]; decide))
              rw [show (mMo fon ftw mx my (fup, flw, 0)).1 k = lN U from eU, show (mMo fon ftw mx my (fup, flw, 0)).2.1 k = lN L from eL]
              refine kmVv (q0 := 0) (ci := 5) (As := [.long (lN U), .long (lN L)]) (rest := []) (WC := [(om, .inr (5, [.int (nI cd), .int (nI ns), .ref apx, .ref apy, .ref act, .int (nI nb), .ref asd, .ref amv, .ref asl, .ref apl, .ref asw, .int (nI nw), .ref aor, .int (nI nc), .ref aon, .ref atw, .long mx, .long my, .ref aup, .ref alw, .int (nI ((mMo fon ftw mx my (fup, flw, 0)).2.2)), .long (-1), .long 1, .long rx, .long ry]))]) (W2 := [(om, .inr (5, [.int (nI cd), .int (nI ns), .ref apx, .ref apy, .ref act, .int (nI nb), .ref asd, .ref amv, .ref asl, .ref apl, .ref asw, .int (nI nw), .ref aor, .int (nI nc), .ref aon, .ref atw, .long mx, .long my, .ref aup, .ref alw, .int (nI ((mMo fon ftw mx my (fup, flw, 0)).2.2)), .long (lN (U / Nat.gcd U L)), .long (lN (L / Nat.gcd U L)), .long rx, .long ry]))]) (WR := [(aon, .inl (cJ, 4, .inr (.inl fon))), (atw, .inl (cJ, 4, .inr (.inl ftw))), (aup, .inl (cJ, 12, .inr (.inl (mMo fon ftw mx my (fup, flw, 0)).1))), (alw, .inl (cJ, 12, .inr (.inl (mMo fon ftw mx my (fup, flw, 0)).2.1)))]) (WN := [(om, .inr (5, [.int (nI cd), .int (nI ns), .ref apx, .ref apy, .ref act, .int (nI nb), .ref asd, .ref amv, .ref asl, .ref apl, .ref asw, .int (nI nw), .ref aor, .int (nI nc), .ref aon, .ref atw, .long mx, .long my, .ref aup, .ref alw, .int (nI ((mMo fon ftw mx my (fup, flw, 0)).2.2)), .long (lN (U / Nat.gcd U L)), .long (lN (L / Nat.gcd U L)), .long rx, .long ry])), (aon, .inl (cJ, 4, .inr (.inl fon))), (atw, .inl (cJ, 4, .inr (.inl ftw))), (aup, .inl (cJ, 12, .inr (.inl (mMo fon ftw mx my (fup, flw, 0)).1))), (alw, .inl (cJ, 12, .inr (.inl (mMo fon ftw mx my (fup, flw, 0)).2.1)))]) (tyC := [(cJ, .long), (cI, .int), (cZ, .boolean)]) (isC := [0]) (isR := [1, 2, 3, 4]) (isN := [4, 0, 1, 2, 3]) (its := [0, 1, 2]) ⟨hx, hb, hml, hown, hts⟩ (tX5_tell l dC dI cJ cI cZ om cd ns apx apy act nb asd amv asl apl asw nw aor nc aon atw aup alw ((mMo fon ftw mx my (fup, flw, 0)).2.2) mx my (-1) 1 rx ry U L (by omega) (by omega) (by omega)) (cwV 2 hts gX5_isFound_X5_tell rfl rfl rfl (by decide +kernel) ⟨Nat.le_of_ble_eq_true rfl, Nat.le_of_ble_eq_true rfl⟩) hP hD hA hS hK rfl (by decide) rfl (by decide) (by decide) rfl (by decide) rfl rfl rfl rfl rfl hl.1 (Nat.le_of_ble_eq_true rfl) dX5_isFound_175 ⟨Nat.le_of_ble_eq_true rfl, Nat.le_of_ble_eq_true rfl⟩ (fun H locs hP hD hS => ?_)
              refine lv_iconst (v := (nI 1)) hx hb dX5_isFound_178 (by decide) ?_
              have hhit : (mHitE fon ftw mx my (mMo fon ftw mx my (fup, flw, 0))) k := by first | exact Or.inl c154 | exact Or.inr ⟨c51, c85, c143⟩
              have hq0 : (mRu (mHitE fon ftw mx my (mMo fon ftw mx my (fup, flw, 0))) (mMo fon ftw mx my (fup, flw, 0))) = (lN (U / Nat.gcd U L)) := (by first | (rw [mRu_s (q := (mMo fon ftw mx my (fup, flw, 0))) c23 hhit hno, show (mMo fon ftw mx my (fup, flw, 0)).1 k = lN U from eU, show (mMo fon ftw mx my (fup, flw, 0)).2.1 k = lN L from eL]; exact mTu_N hU hL) | (rw [mRl_s (q := (mMo fon ftw mx my (fup, flw, 0))) c23 hhit hno, show (mMo fon ftw mx my (fup, flw, 0)).1 k = lN U from eU, show (mMo fon ftw mx my (fup, flw, 0)).2.1 k = lN L from eL]; exact mTl_N hU hL))
              have hq1 : (mRl (mHitE fon ftw mx my (mMo fon ftw mx my (fup, flw, 0))) (mMo fon ftw mx my (fup, flw, 0))) = (lN (L / Nat.gcd U L)) := (by first | (rw [mRu_s (q := (mMo fon ftw mx my (fup, flw, 0))) c23 hhit hno, show (mMo fon ftw mx my (fup, flw, 0)).1 k = lN U from eU, show (mMo fon ftw mx my (fup, flw, 0)).2.1 k = lN L from eL]; exact mTu_N hU hL) | (rw [mRl_s (q := (mMo fon ftw mx my (fup, flw, 0))) c23 hhit hno, show (mMo fon ftw mx my (fup, flw, 0)).1 k = lN U from eU, show (mMo fon ftw mx my (fup, flw, 0)).2.1 k = lN L from eL]; exact mTl_N hU hL))
              have hw : ([(om, .inr (5, [.int (nI cd), .int (nI ns), .ref apx, .ref apy, .ref act, .int (nI nb), .ref asd, .ref amv, .ref asl, .ref apl, .ref asw, .int (nI nw), .ref aor, .int (nI nc), .ref aon, .ref atw, .long mx, .long my, .ref aup, .ref alw, .int (nI ((mMo fon ftw mx my (fup, flw, 0)).2.2)), .long (lN (U / Nat.gcd U L)), .long (lN (L / Nat.gcd U L)), .long rx, .long ry])), (aon, .inl (cJ, 4, .inr (.inl fon))), (atw, .inl (cJ, 4, .inr (.inl ftw))), (aup, .inl (cJ, 12, .inr (.inl (mMo fon ftw mx my (fup, flw, 0)).1))), (alw, .inl (cJ, 12, .inr (.inl (mMo fon ftw mx my (fup, flw, 0)).2.1)))] : va_W) = [(om, .inr (5, [.int (nI cd), .int (nI ns), .ref apx, .ref apy, .ref act, .int (nI nb), .ref asd, .ref amv, .ref asl, .ref apl, .ref asw, .int (nI nw), .ref aor, .int (nI nc), .ref aon, .ref atw, .long mx, .long my, .ref aup, .ref alw, .int (nI ((mMo fon ftw mx my (fup, flw, 0)).2.2)), .long (mRu (mHitE fon ftw mx my (mMo fon ftw mx my (fup, flw, 0))) (mMo fon ftw mx my (fup, flw, 0))), .long (mRl (mHitE fon ftw mx my (mMo fon ftw mx my (fup, flw, 0))) (mMo fon ftw mx my (fup, flw, 0))), .long rx, .long ry])), (aon, .inl (cJ, 4, .inr (.inl fon))), (atw, .inl (cJ, 4, .inr (.inl ftw))), (aup, .inl (cJ, 12, .inr (.inl (mMo fon ftw mx my (fup, flw, 0)).1))), (alw, .inl (cJ, 12, .inr (.inl (mMo fon ftw mx my (fup, flw, 0)).2.1)))] := by rw [hq0, hq1]
              rw [hw] at hP hD
              exact kEz hx hb hr hlocks hP hK hD hS dX5_isFound_179 (kp1 ⟨k, c23, hhit⟩)
            · replace c154 := bI_0 c154; replace c154 := pB_not c154
              refine lv_iload hx hb dX5_isFound_157 (lv_at hl 0 rfl) ?_
              refine lv_if_eq (tgt := 180) hx hb dX5_isFound_159 (by decide) (fun c159 => ?_) (fun c159 => ?_)
              · skip
                exact absurd c159 (by decide)
              · rw [← nI_0, nI_eq (by omega) (by omega)] at c159
                refine lv_aload_n hx hb dX5_isFound_162 rfl (lv_at hl 2 rfl) ?_
                refine lv_aload_n hx hb dX5_isFound_163 rfl (lv_at hl 2 rfl) ?_
                refine va_get (D := (dC, dI)) (ci := 5) (v := .ref aup) (C := RX5) (T := TX5) (N := 25) hx hb hts hi5 hown hK hP 0 rfl rfl 18 (by decide) f45 (fun _ h9 => h9) rfl dX5_isFound_164 ?_
                refine lv_iload_n hx hb dX5_isFound_167 rfl (lv_at hl 4 rfl) ?_
                refine va_lald hx hb hK hP 3 0 rfl rfl (vp_in_nI (show k < 12 by omega) (by omega)) dX5_isFound_168 ?_
                rw [show (nI k).toNatClampNeg = k from nI_clamp (show k < 2 ^ 31 by omega)]
                refine lv_aload_n hx hb dX5_isFound_169 rfl (lv_at hl 2 rfl) ?_
                refine va_get (D := (dC, dI)) (ci := 5) (v := .ref alw) (C := RX5) (T := TX5) (N := 25) hx hb hts hi5 hown hK hP 0 rfl rfl 19 (by decide) f48 (fun _ h9 => h9) rfl dX5_isFound_170 ?_
                refine lv_iload_n hx hb dX5_isFound_173 rfl (lv_at hl 4 rfl) ?_
                refine va_lald hx hb hK hP 4 0 rfl rfl (vp_in_nI (show k < 12 by omega) (by omega)) dX5_isFound_174 ?_
                rw [show (nI k).toNatClampNeg = k from nI_clamp (show k < 2 ^ 31 by omega)]
                obtain ⟨U, hU, eU⟩ := pk_lOf (Int64.not_lt.mpr (hgood k c23).1)
                obtain ⟨L, hL, eL⟩ := pk_lOf (Int64.not_lt.mpr (Int64.le_of_lt (hgood k c23).2))
                have hL0 : 0 < L := Nat.pos_of_ne_zero (fun h => absurd (hgood k c23).2 (by rw [eL, h]; decide))
                rw [show (mMo fon ftw mx my (fup, flw, 0)).1 k = lN U from eU, show (mMo fon ftw mx my (fup, flw, 0)).2.1 k = lN L from eL]
                refine kmVv (q0 := 0) (ci := 5) (As := [.long (lN U), .long (lN L)]) (rest := []) (WC := [(om, .inr (5, [.int (nI cd), .int (nI ns), .ref apx, .ref apy, .ref act, .int (nI nb), .ref asd, .ref amv, .ref asl, .ref apl, .ref asw, .int (nI nw), .ref aor, .int (nI nc), .ref aon, .ref atw, .long mx, .long my, .ref aup, .ref alw, .int (nI ((mMo fon ftw mx my (fup, flw, 0)).2.2)), .long (-1), .long 1, .long rx, .long ry]))]) (W2 := [(om, .inr (5, [.int (nI cd), .int (nI ns), .ref apx, .ref apy, .ref act, .int (nI nb), .ref asd, .ref amv, .ref asl, .ref apl, .ref asw, .int (nI nw), .ref aor, .int (nI nc), .ref aon, .ref atw, .long mx, .long my, .ref aup, .ref alw, .int (nI ((mMo fon ftw mx my (fup, flw, 0)).2.2)), .long (lN (U / Nat.gcd U L)), .long (lN (L / Nat.gcd U L)), .long rx, .long ry]))]) (WR := [(aon, .inl (cJ, 4, .inr (.inl fon))), (atw, .inl (cJ, 4, .inr (.inl ftw))), (aup, .inl (cJ, 12, .inr (.inl (mMo fon ftw mx my (fup, flw, 0)).1))), (alw, .inl (cJ, 12, .inr (.inl (mMo fon ftw mx my (fup, flw, 0)).2.1)))]) (WN := [(om, .inr (5, [.int (nI cd), .int (nI ns), .ref apx, .ref apy, .ref act, .int (nI nb), .ref asd, .ref amv, .ref asl, .ref apl, .ref asw, .int (nI nw), .ref aor, .int (nI nc), .ref aon, .ref atw, .long mx, .long my, .ref aup, .ref alw, .int (nI ((mMo fon ftw mx my (fup, flw, 0)).2.2)), .long (lN (U / Nat.gcd U L)), .long (lN (L / Nat.gcd U L)), .long rx, .long ry])), (aon, .inl (cJ, 4, .inr (.inl fon))), (atw, .inl (cJ, 4, .inr (.inl ftw))), (aup, .inl (cJ, 12, .inr (.inl (mMo fon ftw mx my (fup, flw, 0)).1))), (alw, .inl (cJ, 12, .inr (.inl (mMo fon ftw mx my (fup, flw, 0)).2.1)))]) (tyC := [(cJ, .long), (cI, .int), (cZ, .boolean)]) (isC := [0]) (isR := [1, 2, 3, 4]) (isN := [4, 0, 1, 2, 3]) (its := [0, 1, 2]) ⟨hx, hb, hml, hown, hts⟩ (tX5_tell l dC dI cJ cI cZ om cd ns apx apy act nb asd amv asl apl asw nw aor nc aon atw aup alw ((mMo fon ftw mx my (fup, flw, 0)).2.2) mx my (-1) 1 rx ry U L (by omega) (by omega) (by omega)) (cwV 2 hts gX5_isFound_X5_tell rfl rfl rfl (by decide +kernel) ⟨Nat.le_of_ble_eq_true rfl, Nat.le_of_ble_eq_true rfl⟩) hP hD hA hS hK rfl (by decide) rfl (by decide) (by decide) rfl (by decide) rfl rfl rfl rfl rfl hl.1 (Nat.le_of_ble_eq_true rfl) dX5_isFound_175 ⟨Nat.le_of_ble_eq_true rfl, Nat.le_of_ble_eq_true rfl⟩ (fun H locs hP hD hS => ?_)
                refine lv_iconst (v := (nI 1)) hx hb dX5_isFound_178 (by decide) ?_
                have hhit : (mHitE fon ftw mx my (mMo fon ftw mx my (fup, flw, 0))) k := by first | exact Or.inl c154 | exact Or.inr ⟨c51, c85, c143⟩
                have hq0 : (mRu (mHitE fon ftw mx my (mMo fon ftw mx my (fup, flw, 0))) (mMo fon ftw mx my (fup, flw, 0))) = (lN (U / Nat.gcd U L)) := (by first | (rw [mRu_s (q := (mMo fon ftw mx my (fup, flw, 0))) c23 hhit hno, show (mMo fon ftw mx my (fup, flw, 0)).1 k = lN U from eU, show (mMo fon ftw mx my (fup, flw, 0)).2.1 k = lN L from eL]; exact mTu_N hU hL) | (rw [mRl_s (q := (mMo fon ftw mx my (fup, flw, 0))) c23 hhit hno, show (mMo fon ftw mx my (fup, flw, 0)).1 k = lN U from eU, show (mMo fon ftw mx my (fup, flw, 0)).2.1 k = lN L from eL]; exact mTl_N hU hL))
                have hq1 : (mRl (mHitE fon ftw mx my (mMo fon ftw mx my (fup, flw, 0))) (mMo fon ftw mx my (fup, flw, 0))) = (lN (L / Nat.gcd U L)) := (by first | (rw [mRu_s (q := (mMo fon ftw mx my (fup, flw, 0))) c23 hhit hno, show (mMo fon ftw mx my (fup, flw, 0)).1 k = lN U from eU, show (mMo fon ftw mx my (fup, flw, 0)).2.1 k = lN L from eL]; exact mTu_N hU hL) | (rw [mRl_s (q := (mMo fon ftw mx my (fup, flw, 0))) c23 hhit hno, show (mMo fon ftw mx my (fup, flw, 0)).1 k = lN U from eU, show (mMo fon ftw mx my (fup, flw, 0)).2.1 k = lN L from eL]; exact mTl_N hU hL))
                have hw : ([(om, .inr (5, [.int (nI cd), .int (nI ns), .ref apx, .ref apy, .ref act, .int (nI nb), .ref asd, .ref amv, .ref asl, .ref apl, .ref asw, .int (nI nw), .ref aor, .int (nI nc), .ref aon, .ref atw, .long mx, .long my, .ref aup, .ref alw, .int (nI ((mMo fon ftw mx my (fup, flw, 0)).2.2)), .long (lN (U / Nat.gcd U L)), .long (lN (L / Nat.gcd U L)), .long rx, .long ry])), (aon, .inl (cJ, 4, .inr (.inl fon))), (atw, .inl (cJ, 4, .inr (.inl ftw))), (aup, .inl (cJ, 12, .inr (.inl (mMo fon ftw mx my (fup, flw, 0)).1))), (alw, .inl (cJ, 12, .inr (.inl (mMo fon ftw mx my (fup, flw, 0)).2.1)))] : va_W) = [(om, .inr (5, [.int (nI cd), .int (nI ns), .ref apx, .ref apy, .ref act, .int (nI nb), .ref asd, .ref amv, .ref asl, .ref apl, .ref asw, .int (nI nw), .ref aor, .int (nI nc), .ref aon, .ref atw, .long mx, .long my, .ref aup, .ref alw, .int (nI ((mMo fon ftw mx my (fup, flw, 0)).2.2)), .long (mRu (mHitE fon ftw mx my (mMo fon ftw mx my (fup, flw, 0))) (mMo fon ftw mx my (fup, flw, 0))), .long (mRl (mHitE fon ftw mx my (mMo fon ftw mx my (fup, flw, 0))) (mMo fon ftw mx my (fup, flw, 0))), .long rx, .long ry])), (aon, .inl (cJ, 4, .inr (.inl fon))), (atw, .inl (cJ, 4, .inr (.inl ftw))), (aup, .inl (cJ, 12, .inr (.inl (mMo fon ftw mx my (fup, flw, 0)).1))), (alw, .inl (cJ, 12, .inr (.inl (mMo fon ftw mx my (fup, flw, 0)).2.1)))] := by rw [hq0, hq1]
                rw [hw] at hP hD
                exact kEz hx hb hr hlocks hP hK hD hS dX5_isFound_179 (kp1 ⟨k, c23, hhit⟩)
  · exact ⟨hP, hD, hS, lv_sub hl [1, 2, 0] rfl, ⟨Nat.zero_le _, fun j h => absurd h (Nat.not_lt_zero j)⟩⟩
