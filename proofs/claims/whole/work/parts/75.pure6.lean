/-! pure: first touch and first overlap, class and reference say the same -/
theorem prB {x y : Int64} (hx : sm 100000 x) (hy : sm 4398046511104 y) : (x * y).toInt = x.toInt * y.toInt ∧ -439804651110400000 ≤ x.toInt * y.toInt ∧ x.toInt * y.toInt ≤ 439804651110400000 := by
  have h : -439804651110400000 ≤ x.toInt * y.toInt ∧ x.toInt * y.toInt ≤ 439804651110400000 := mulB hx.1 hx.2 hy.1 hy.2
  exact ⟨tI_mul (by omega) (by omega), h⟩
theorem mlt {a b l : Int} (hl : 0 < l) : a * l < b * l ↔ a < b := ⟨fun h => Int.lt_of_mul_lt_mul_right h (Int.le_of_lt hl), fun h => Int.mul_lt_mul_of_pos_right h hl⟩
theorem mle {a b l : Int} (hl : 0 < l) : a * l ≤ b * l ↔ a ≤ b := ⟨fun h => Int.le_of_mul_le_mul_right h hl, fun h => Int.mul_le_mul_of_nonneg_right h (Int.le_of_lt hl)⟩
theorem comI_i {o0 o1 t0 t1 b u l_ : Int64} (a0 : sm 100000 o0) (a1 : sm 100000 o1) (b0 : sm 100000 t0) (b1 : sm 100000 t1) (hb : sm 100000 b) (hu : sm 4398046511104 u) (hl : sm 4398046511104 l_) (hp : 0 < l_.toInt) :
    mComI o0 o1 t0 t1 b u l_ ↔ (o0.toInt < o1.toInt ∧ t0.toInt < t1.toInt) ∧ AxO (t0.toInt - o1.toInt) (t1.toInt - o0.toInt) b.toInt u.toInt l_.toInt := by
  obtain ⟨e1, p1, p1'⟩ := prB a0 hl
  obtain ⟨e2, p2, p2'⟩ := prB a1 hl
  obtain ⟨e3, p3, p3'⟩ := prB b0 hl
  obtain ⟨e4, p4, p4'⟩ := prB b1 hl
  obtain ⟨e5, p5, p5'⟩ := prB hb hu
  have s1 : (o0 * l_ + b * u).toInt = o0.toInt * l_.toInt + b.toInt * u.toInt := by rw [tI_add (by rw [e1, e5]; omega) (by rw [e1, e5]; omega), e1, e5]
  have s2 : (o1 * l_ + b * u).toInt = o1.toInt * l_.toInt + b.toInt * u.toInt := by rw [tI_add (by rw [e2, e5]; omega) (by rw [e2, e5]; omega), e2, e5]
  unfold mComI AxO
  rw [Int64.lt_iff_toInt_lt, Int64.lt_iff_toInt_lt, Int64.lt_iff_toInt_lt, Int64.lt_iff_toInt_lt, s1, s2, e3, e4, Int.sub_mul, Int.sub_mul, ← mlt (a := o0.toInt) (b := o1.toInt) hp, ← mlt (a := t0.toInt) (b := t1.toInt) hp]
  constructor
  · rintro ⟨h1, h2, h3, h4⟩; exact ⟨⟨by omega, h4⟩, by omega, by omega⟩
  · rintro ⟨⟨h1, h2⟩, h3, h4⟩; exact ⟨by omega, by omega, by omega, h2⟩
theorem comE_i {o0 o1 t0 t1 b u l_ : Int64} (a0 : sm 100000 o0) (a1 : sm 100000 o1) (b0 : sm 100000 t0) (b1 : sm 100000 t1) (hb : sm 100000 b) (hu : sm 4398046511104 u) (hl : sm 4398046511104 l_) (hp : 0 < l_.toInt) :
    mComE o0 o1 t0 t1 b u l_ ↔ (o0.toInt ≤ o1.toInt ∧ t0.toInt ≤ t1.toInt) ∧ AxC (t0.toInt - o1.toInt) (t1.toInt - o0.toInt) b.toInt u.toInt l_.toInt := by
  obtain ⟨e1, p1, p1'⟩ := prB a0 hl
  obtain ⟨e2, p2, p2'⟩ := prB a1 hl
  obtain ⟨e3, p3, p3'⟩ := prB b0 hl
  obtain ⟨e4, p4, p4'⟩ := prB b1 hl
  obtain ⟨e5, p5, p5'⟩ := prB hb hu
  have s1 : (o0 * l_ + b * u).toInt = o0.toInt * l_.toInt + b.toInt * u.toInt := by rw [tI_add (by rw [e1, e5]; omega) (by rw [e1, e5]; omega), e1, e5]
  have s2 : (o1 * l_ + b * u).toInt = o1.toInt * l_.toInt + b.toInt * u.toInt := by rw [tI_add (by rw [e2, e5]; omega) (by rw [e2, e5]; omega), e2, e5]
  unfold mComE AxC
  rw [Int64.le_iff_toInt_le, Int64.le_iff_toInt_le, Int64.le_iff_toInt_le, Int64.le_iff_toInt_le, s1, s2, e3, e4, Int.sub_mul, Int.sub_mul, ← mle (a := o0.toInt) (b := o1.toInt) hp, ← mle (a := t0.toInt) (b := t1.toInt) hp]
  constructor
  · rintro ⟨h1, h2, h3, h4⟩; exact ⟨⟨by omega, h4⟩, by omega, by omega⟩
  · rintro ⟨⟨h1, h2⟩, h3, h4⟩; exact ⟨by omega, by omega, by omega, h2⟩
def StO (o0 o1 o2 o3 t0 t1 t2 t3 mx my : Int64) (p q : Int) : Prop := ((o0.toInt < o2.toInt ∧ t0.toInt < t2.toInt) ∧ AxO (t0.toInt - o2.toInt) (t2.toInt - o0.toInt) mx.toInt p q) ∧ ((o1.toInt < o3.toInt ∧ t1.toInt < t3.toInt) ∧ AxO (t1.toInt - o3.toInt) (t3.toInt - o1.toInt) my.toInt p q)
def StC (o0 o1 o2 o3 t0 t1 t2 t3 mx my : Int64) (p q : Int) : Prop := ((o0.toInt ≤ o2.toInt ∧ t0.toInt ≤ t2.toInt) ∧ AxC (t0.toInt - o2.toInt) (t2.toInt - o0.toInt) mx.toInt p q) ∧ ((o1.toInt ≤ o3.toInt ∧ t1.toInt ≤ t3.toInt) ∧ AxC (t1.toInt - o3.toInt) (t3.toInt - o1.toInt) my.toInt p q)
/-- the midst between two times of the list, as longs -/
theorem mid_i {u l_ v k : Int64} (h1 : sm 1048576 u) (h2 : sm 1048576 l_) (h3 : sm 1048576 v) (h4 : sm 1048576 k) : (u * k + v * l_).toInt = u.toInt * k.toInt + v.toInt * l_.toInt ∧ sm 4398046511104 (u * k + v * l_) ∧ (2 * l_ * k).toInt = 2 * l_.toInt * k.toInt ∧ sm 4398046511104 (2 * l_ * k) ∧ (u * k = v * l_ ↔ u.toInt * k.toInt = v.toInt * l_.toInt) := by
  have e1 := pr_i h1 h4
  have e2 := pr_i h3 h2
  have b1 := pr_b h1.1 h1.2 h4.1 h4.2
  have b2 := pr_b h3.1 h3.2 h2.1 h2.2
  have b3 := pr_b h2.1 h2.2 h4.1 h4.2
  have e3 : (u * k + v * l_).toInt = u.toInt * k.toInt + v.toInt * l_.toInt := by rw [tI_add (by rw [e1, e2]; omega) (by rw [e1, e2]; omega), e1, e2]
  have i2 : (2 : Int64).toInt = 2 := by decide
  have e4 : (2 * l_).toInt = 2 * l_.toInt := by rw [tI_mul (by rw [i2]; have := h2.1; omega) (by rw [i2]; have := h2.2; omega), i2]
  have e6 : 2 * l_.toInt * k.toInt = 2 * (l_.toInt * k.toInt) := Int.mul_assoc _ _ _
  have e5 : (2 * l_ * k).toInt = 2 * l_.toInt * k.toInt := by rw [tI_mul (by rw [e4, e6]; omega) (by rw [e4, e6]; omega), e4]
  refine ⟨e3, ?_, e5, ?_, ?_⟩
  · unfold sm; rw [e3]; omega
  · unfold sm; rw [e5, e6]; omega
  · rw [← Int64.toInt_inj, e1, e2]
section Same
variable {o0 o1 o2 o3 t0 t1 t2 t3 mx my : Int64}
theorem atI_i (a0 : sm 100000 o0) (a1 : sm 100000 o1) (a2 : sm 100000 o2) (a3 : sm 100000 o3) (b0 : sm 100000 t0) (b1 : sm 100000 t1) (b2 : sm 100000 t2) (b3 : sm 100000 t3) (hx : sm 100000 mx) (hy : sm 100000 my) {u l_ : Int64} (hu : sm 4398046511104 u) (hl : sm 4398046511104 l_) (hp : 0 < l_.toInt) :
    mAtI (mF4 o0 o1 o2 o3) (mF4 t0 t1 t2 t3) mx my u l_ ↔ StO o0 o1 o2 o3 t0 t1 t2 t3 mx my u.toInt l_.toInt := by
  show (mComI o0 o2 t0 t2 mx u l_ ∧ mComI o1 o3 t1 t3 my u l_) ↔ _
  rw [comI_i a0 a2 b0 b2 hx hu hl hp, comI_i a1 a3 b1 b3 hy hu hl hp]; exact Iff.rfl
theorem atE_i (a0 : sm 100000 o0) (a1 : sm 100000 o1) (a2 : sm 100000 o2) (a3 : sm 100000 o3) (b0 : sm 100000 t0) (b1 : sm 100000 t1) (b2 : sm 100000 t2) (b3 : sm 100000 t3) (hx : sm 100000 mx) (hy : sm 100000 my) {u l_ : Int64} (hu : sm 4398046511104 u) (hl : sm 4398046511104 l_) (hp : 0 < l_.toInt) :
    mAtE (mF4 o0 o1 o2 o3) (mF4 t0 t1 t2 t3) mx my u l_ ↔ StC o0 o1 o2 o3 t0 t1 t2 t3 mx my u.toInt l_.toInt := by
  show (mComE o0 o2 t0 t2 mx u l_ ∧ mComE o1 o3 t1 t3 my u l_) ↔ _
  rw [comE_i a0 a2 b0 b2 hx hu hl hp, comE_i a1 a3 b1 b3 hy hu hl hp]; exact Iff.rfl
theorem hitI_i (a0 : sm 100000 o0) (a1 : sm 100000 o1) (a2 : sm 100000 o2) (a3 : sm 100000 o3) (b0 : sm 100000 t0) (b1 : sm 100000 t1) (b2 : sm 100000 t2) (b3 : sm 100000 t3) (hx : sm 100000 mx) (hy : sm 100000 my) {q : (Nat → Int64) × (Nat → Int64) × Nat} (hq : SLq q) {k : Nat} (hk : k < q.2.2) :
    mHitI (mF4 o0 o1 o2 o3) (mF4 t0 t1 t2 t3) mx my q k ↔ Hit (StO o0 o1 o2 o3 t0 t1 t2 t3 mx my) (fun j => (q.1 j).toInt) (fun j => (q.2.1 j).toInt) q.2.2 k := by
  have sg : ∀ j, j < q.2.2 → sm 1048576 (q.1 j) ∧ sm 1048576 (q.2.1 j) := fun j hj => by
    have := hq.1 j hj
    exact ⟨⟨by omega, by omega⟩, ⟨by omega, by omega⟩⟩
  have up : ∀ {x : Int64}, sm 1048576 x → sm 4398046511104 x := fun h => sm_mono h (by decide)
  unfold mHitI Hit
  rw [atI_i a0 a1 a2 a3 b0 b1 b2 b3 hx hy (up (sg k hk).1) (up (sg k hk).2) (hq.1 k hk).2.2.1]
  by_cases h : k + 1 < q.2.2
  · obtain ⟨m1, m2, m3, m4, m5⟩ := mid_i (sg k hk).1 (sg k hk).2 (sg (k + 1) h).1 (sg (k + 1) h).2
    have hp : 0 < (2 * q.2.1 k * q.2.1 (k + 1)).toInt := by
      rw [m3]; exact Int.mul_pos (Int.mul_pos (by decide) (hq.1 k hk).2.2.1) (hq.1 (k + 1) h).2.2.1
    rw [atI_i a0 a1 a2 a3 b0 b1 b2 b3 hx hy m2 m4 hp, m1, m3, m5]
  · constructor
    · rintro (z | z); exact Or.inl z; exact absurd z.1 h
    · rintro (z | z); exact Or.inl z; exact absurd z.1 h
theorem hitE_i (a0 : sm 100000 o0) (a1 : sm 100000 o1) (a2 : sm 100000 o2) (a3 : sm 100000 o3) (b0 : sm 100000 t0) (b1 : sm 100000 t1) (b2 : sm 100000 t2) (b3 : sm 100000 t3) (hx : sm 100000 mx) (hy : sm 100000 my) {q : (Nat → Int64) × (Nat → Int64) × Nat} (hq : SLq q) {k : Nat} (hk : k < q.2.2) :
    mHitE (mF4 o0 o1 o2 o3) (mF4 t0 t1 t2 t3) mx my q k ↔ Hit (StC o0 o1 o2 o3 t0 t1 t2 t3 mx my) (fun j => (q.1 j).toInt) (fun j => (q.2.1 j).toInt) q.2.2 k := by
  have sg : ∀ j, j < q.2.2 → sm 1048576 (q.1 j) ∧ sm 1048576 (q.2.1 j) := fun j hj => by
    have := hq.1 j hj
    exact ⟨⟨by omega, by omega⟩, ⟨by omega, by omega⟩⟩
  have up : ∀ {x : Int64}, sm 1048576 x → sm 4398046511104 x := fun h => sm_mono h (by decide)
  unfold mHitE Hit
  rw [atE_i a0 a1 a2 a3 b0 b1 b2 b3 hx hy (up (sg k hk).1) (up (sg k hk).2) (hq.1 k hk).2.2.1]
  by_cases h : k + 1 < q.2.2
  · obtain ⟨m1, m2, m3, m4, m5⟩ := mid_i (sg k hk).1 (sg k hk).2 (sg (k + 1) h).1 (sg (k + 1) h).2
    have hp : 0 < (2 * q.2.1 k * q.2.1 (k + 1)).toInt := by
      rw [m3]; exact Int.mul_pos (Int.mul_pos (by decide) (hq.1 k hk).2.2.1) (hq.1 (k + 1) h).2.2.1
    rw [atE_i a0 a1 a2 a3 b0 b1 b2 b3 hx hy m2 m4 hp, m1, m3, m5]
  · constructor
    · rintro (z | z); exact Or.inl z; exact absurd z.1 h
    · rintro (z | z); exact Or.inl z; exact absurd z.1 h
theorem AxC_eq {lw hg sp p q p' q' : Int} (hq : 0 < q) (hq' : 0 < q') (e : p * q' = p' * q) (h : AxC lw hg sp p q) : AxC lw hg sp p' q' := by
  obtain ⟨h1, h2⟩ := h
  have k1 : lw * q * q' ≤ sp * p * q' := Int.mul_le_mul_of_nonneg_right h1 (Int.le_of_lt hq')
  have k2 : sp * p * q' ≤ hg * q * q' := Int.mul_le_mul_of_nonneg_right h2 (Int.le_of_lt hq')
  have e1 : sp * p * q' = sp * p' * q := by rw [Int.mul_assoc, e, Int.mul_assoc]
  have e2 : lw * q * q' = lw * q' * q := by grind
  have e3 : hg * q * q' = hg * q' * q := by grind
  rw [e1, e2] at k1
  rw [e1, e3] at k2
  exact ⟨Int.le_of_mul_le_mul_right k1 hq, Int.le_of_mul_le_mul_right k2 hq⟩
/-- the reference's first overlap -/
theorem refI (a0 : sm 100000 o0) (a1 : sm 100000 o1) (a2 : sm 100000 o2) (a3 : sm 100000 o3) (b0 : sm 100000 t0) (b1 : sm 100000 t1) (b2 : sm 100000 t2) (b3 : sm 100000 t3) (hx : sm 100000 mx) (hy : sm 100000 my) :
    (cFI o0 o1 o2 o3 t0 t1 t2 t3 mx my ↔ ∃ p q : Int, 0 < q ∧ 0 < p ∧ p < q ∧ StO o0 o1 o2 o3 t0 t1 t2 t3 mx my p q) ∧ (cFI o0 o1 o2 o3 t0 t1 t2 t3 mx my → ∃ u l_ : Int64, 0 ≤ u.toInt ∧ 0 < l_.toInt ∧ cUI o0 o1 o2 o3 t0 t1 t2 t3 mx my = mTu u l_ ∧ cLI o0 o1 o2 o3 t0 t1 t2 t3 mx my = mTl u l_ ∧ isInf (fun p q => 0 < p ∧ p < q ∧ StO o0 o1 o2 o3 t0 t1 t2 t3 mx my p q) u.toInt l_.toInt) ∧ (¬ cFI o0 o1 o2 o3 t0 t1 t2 t3 mx my → cUI o0 o1 o2 o3 t0 t1 t2 t3 mx my = -1 ∧ cLI o0 o1 o2 o3 t0 t1 t2 t3 mx my = 1) := by
  obtain ⟨hq, hT, r1, r2, r3, r4⟩ := mo_ok a0 a1 a2 a3 b0 b1 b2 b3 hx hy
  have hH : ∀ k, k < (cQ o0 o1 o2 o3 t0 t1 t2 t3 mx my).2.2 → (cHI o0 o1 o2 o3 t0 t1 t2 t3 mx my k ↔ _) := fun k hk => hitI_i a0 a1 a2 a3 b0 b1 b2 b3 hx hy hq hk
  unfold cFI cUI cLI
  generalize cQ o0 o1 o2 o3 t0 t1 t2 t3 mx my = q at *
  have hG : ∀ (j : Nat) (p q_ p' q' : Int), j + 1 < q.2.2 → 0 < q_ → 0 < q' → 0 ≤ p → p ≤ q_ → 0 ≤ p' → p' ≤ q' → (fun j => (q.1 j).toInt) j * q_ ≤ p * (fun j => (q.2.1 j).toInt) j → p * (fun j => (q.2.1 j).toInt) (j + 1) ≤ (fun j => (q.1 j).toInt) (j + 1) * q_ → (fun j => (q.1 j).toInt) j * q' < p' * (fun j => (q.2.1 j).toInt) j → p' * (fun j => (q.2.1 j).toInt) (j + 1) < (fun j => (q.1 j).toInt) (j + 1) * q' → StO o0 o1 o2 o3 t0 t1 t2 t3 mx my p q_ → StO o0 o1 o2 o3 t0 t1 t2 t3 mx my p' q' := by
    intro j p q_ p' q' hj x1 x2 x3 x4 x5 x6 y1 y2 y3 y4 hs
    exact ⟨⟨hs.1.1, gapO hT r1 r2 hj x1 x2 x3 x4 x5 x6 y1 y2 y3 y4 hs.1.2⟩, ⟨hs.2.1, gapO hT r3 r4 hj x1 x2 x3 x4 x5 x6 y1 y2 y3 y4 hs.2.2⟩⟩
  have hinf : ∀ k, k < q.2.2 → cHI o0 o1 o2 o3 t0 t1 t2 t3 mx my k → ∃ j, j < q.2.2 ∧ mFst (cHI o0 o1 o2 o3 t0 t1 t2 t3 mx my) 0 q.2.2 = some j ∧ isInf (fun p q => 0 < p ∧ p < q ∧ StO o0 o1 o2 o3 t0 t1 t2 t3 mx my p q) (q.1 j).toInt (q.2.1 j).toInt := by
    intro k hk hh
    obtain ⟨j, hj, hp, hmin⟩ := least hh
    refine ⟨j, by omega, mFst_some q.2.2 0 j (Nat.zero_le _) (by omega) hp (fun i _ hi => hmin i hi), ?_⟩
    exact inf_o hT hG (show j < q.2.2 by omega) ((hH j (by omega)).mp hp) (fun i hi z => hmin i hi ((hH i (by omega)).mpr z))
  refine ⟨⟨?_, ?_⟩, ?_, ?_⟩
  · rintro ⟨k, hk, hh⟩
    obtain ⟨j, hj, _, h1, h2, h3⟩ := hinf k hk hh
    obtain ⟨a, b, hb, hs, _⟩ := h3 ((q.1 j).toInt + (q.2.1 j).toInt) (q.2.1 j).toInt h1 (by rw [Int.add_mul]; have := Int.mul_pos h1 h1; omega)
    exact ⟨a, b, hb, hs⟩
  · rintro ⟨p, q_, x1, x2, x3, hs⟩
    obtain ⟨j, hj, hh⟩ := ex_o hT hG x1 x2 x3 hs
    exact ⟨j, hj, (hH j hj).mpr hh⟩
  · rintro ⟨k, hk, hh⟩
    obtain ⟨j, hj, hf, hi⟩ := hinf k hk hh
    refine ⟨q.1 j, q.2.1 j, (hq.1 j hj).1, (hq.1 j hj).2.2.1, ?_, ?_, hi⟩
    · unfold mRu; rw [hf]
    · unfold mRl; rw [hf]
  · intro hn
    have hf := mFst_none (P := cHI o0 o1 o2 o3 t0 t1 t2 t3 mx my) q.2.2 0 (fun j _ hj z => hn ⟨j, by omega, z⟩)
    unfold mRu mRl; rw [hf]; exact ⟨rfl, rfl⟩
theorem refE (a0 : sm 100000 o0) (a1 : sm 100000 o1) (a2 : sm 100000 o2) (a3 : sm 100000 o3) (b0 : sm 100000 t0) (b1 : sm 100000 t1) (b2 : sm 100000 t2) (b3 : sm 100000 t3) (hx : sm 100000 mx) (hy : sm 100000 my) :
    (cFE o0 o1 o2 o3 t0 t1 t2 t3 mx my ↔ ∃ p q : Int, 0 < q ∧ 0 ≤ p ∧ p ≤ q ∧ StC o0 o1 o2 o3 t0 t1 t2 t3 mx my p q) ∧ (cFE o0 o1 o2 o3 t0 t1 t2 t3 mx my → ∃ u l_ : Int64, 0 ≤ u.toInt ∧ 0 < l_.toInt ∧ cUE o0 o1 o2 o3 t0 t1 t2 t3 mx my = mTu u l_ ∧ cLE o0 o1 o2 o3 t0 t1 t2 t3 mx my = mTl u l_ ∧ isInf (fun p q => 0 ≤ p ∧ p ≤ q ∧ StC o0 o1 o2 o3 t0 t1 t2 t3 mx my p q) u.toInt l_.toInt) ∧ (¬ cFE o0 o1 o2 o3 t0 t1 t2 t3 mx my → cUE o0 o1 o2 o3 t0 t1 t2 t3 mx my = -1 ∧ cLE o0 o1 o2 o3 t0 t1 t2 t3 mx my = 1) := by
  obtain ⟨hq, hT, r1, r2, r3, r4⟩ := mo_ok a0 a1 a2 a3 b0 b1 b2 b3 hx hy
  have hH : ∀ k, k < (cQ o0 o1 o2 o3 t0 t1 t2 t3 mx my).2.2 → (cHE o0 o1 o2 o3 t0 t1 t2 t3 mx my k ↔ _) := fun k hk => hitE_i a0 a1 a2 a3 b0 b1 b2 b3 hx hy hq hk
  unfold cFE cUE cLE
  generalize cQ o0 o1 o2 o3 t0 t1 t2 t3 mx my = q at *
  have hE : ∀ p q p' q' : Int, 0 < q → 0 < q' → p * q' = p' * q → StC o0 o1 o2 o3 t0 t1 t2 t3 mx my p q → StC o0 o1 o2 o3 t0 t1 t2 t3 mx my p' q' := fun p q p' q' h1 h2 e hs => ⟨⟨hs.1.1, AxC_eq h1 h2 e hs.1.2⟩, ⟨hs.2.1, AxC_eq h1 h2 e hs.2.2⟩⟩
  have hG : ∀ (j : Nat) (p q_ p' q' : Int), j + 1 < q.2.2 → 0 < q_ → 0 < q' → 0 ≤ p → p ≤ q_ → 0 ≤ p' → p' ≤ q' → (fun j => (q.1 j).toInt) j * q_ < p * (fun j => (q.2.1 j).toInt) j → p * (fun j => (q.2.1 j).toInt) (j + 1) < (fun j => (q.1 j).toInt) (j + 1) * q_ → (fun j => (q.1 j).toInt) j * q' ≤ p' * (fun j => (q.2.1 j).toInt) j → p' * (fun j => (q.2.1 j).toInt) (j + 1) ≤ (fun j => (q.1 j).toInt) (j + 1) * q' → StC o0 o1 o2 o3 t0 t1 t2 t3 mx my p q_ → StC o0 o1 o2 o3 t0 t1 t2 t3 mx my p' q' := by
    intro j p q_ p' q' hj x1 x2 x3 x4 x5 x6 y1 y2 y3 y4 hs
    exact ⟨⟨hs.1.1, gapC hT r1 r2 hj x1 x2 x3 x4 x5 x6 y1 y2 y3 y4 hs.1.2⟩, ⟨hs.2.1, gapC hT r3 r4 hj x1 x2 x3 x4 x5 x6 y1 y2 y3 y4 hs.2.2⟩⟩
  have hinf : ∀ k, k < q.2.2 → cHE o0 o1 o2 o3 t0 t1 t2 t3 mx my k → ∃ j, j < q.2.2 ∧ mFst (cHE o0 o1 o2 o3 t0 t1 t2 t3 mx my) 0 q.2.2 = some j ∧ isInf (fun p q => 0 ≤ p ∧ p ≤ q ∧ StC o0 o1 o2 o3 t0 t1 t2 t3 mx my p q) (q.1 j).toInt (q.2.1 j).toInt := by
    intro k hk hh
    obtain ⟨j, hj, hp, hmin⟩ := least hh
    refine ⟨j, by omega, mFst_some q.2.2 0 j (Nat.zero_le _) (by omega) hp (fun i _ hi => hmin i hi), ?_⟩
    exact inf_c hT hE hG (show j < q.2.2 by omega) ((hH j (by omega)).mp hp) (fun i hi z => hmin i hi ((hH i (by omega)).mpr z))
  refine ⟨⟨?_, ?_⟩, ?_, ?_⟩
  · rintro ⟨k, hk, hh⟩
    obtain ⟨j, hj, _, h1, h2, h3⟩ := hinf k hk hh
    obtain ⟨a, b, hb, hs, _⟩ := h3 ((q.1 j).toInt + (q.2.1 j).toInt) (q.2.1 j).toInt h1 (by rw [Int.add_mul]; have := Int.mul_pos h1 h1; omega)
    exact ⟨a, b, hb, hs⟩
  · rintro ⟨p, q_, x1, x2, x3, hs⟩
    obtain ⟨j, hj, hh⟩ := ex_c hT hE hG x1 x2 x3 hs
    exact ⟨j, hj, (hH j hj).mpr hh⟩
  · rintro ⟨k, hk, hh⟩
    obtain ⟨j, hj, hf, hi⟩ := hinf k hk hh
    refine ⟨q.1 j, q.2.1 j, (hq.1 j hj).1, (hq.1 j hj).2.2.1, ?_, ?_, hi⟩
    · unfold mRu; rw [hf]
    · unfold mRl; rw [hf]
  · intro hn
    have hf := mFst_none (P := cHE o0 o1 o2 o3 t0 t1 t2 t3 mx my) q.2.2 0 (fun j _ hj z => hn ⟨j, by omega, z⟩)
    unfold mRu mRl; rw [hf]; exact ⟨rfl, rfl⟩
end Same
theorem isInf_congr {P R : Int → Int → Prop} {u l : Int} (h : ∀ p q, P p q ↔ R p q) (hi : isInf P u l) : isInf R u l := by
  have : P = R := funext fun p => funext fun q => propext (h p q)
  rw [← this]; exact hi
section Boxes
variable {ax0 ay0 ax1 ay1 adx ady bx0 by0 bx1 by1 bdx bdy : Int64}
theorem ov_core {u l_ v w up lo : Int64} {bar fd : Bool} (a0 : sm 30000 ax0) (a1 : sm 30000 ay0) (a2 : sm 30000 ax1) (a3 : sm 30000 ay1) (b0 : sm 30000 bx0) (b1 : sm 30000 by0) (b2 : sm 30000 bx1) (b3 : sm 30000 by1) (c0 : sm 30000 adx) (c1 : sm 30000 ady) (d0 : sm 30000 bdx) (d1 : sm 30000 bdy)
    (hN : NO (fun p q => (True ∧ AxO (bx0 - ax1).toInt (bx1 - ax0).toInt (adx - bdx).toInt p q) ∧ AxO (by0 - ay1).toInt (by1 - ay0).toInt (ady - bdy).toInt p q) u l_ v w bar)
    (hfd : fd = true ↔ ((bar = false ∧ (ax0 < ax1 ∧ ay0 < ay1)) ∧ (bx0 < bx1 ∧ by0 < by1)) ∧ u * w < v * l_) (hup : up = if fd then u / pDiv u l_ else -1) (hlo : lo = if fd then l_ / pDiv u l_ else 1) :
    (fd = true ↔ cFI ax0 ay0 ax1 ay1 bx0 by0 bx1 by1 (adx - bdx) (ady - bdy)) ∧ up = cUI ax0 ay0 ax1 ay1 bx0 by0 bx1 by1 (adx - bdx) (ady - bdy) ∧ lo = cLI ax0 ay0 ax1 ay1 bx0 by0 bx1 by1 (adx - bdx) (ady - bdy) := by
  have up1 : ∀ {x : Int64}, sm 30000 x → sm 100000 x := fun h => sm_mono h (by decide)
  have up2 : ∀ {x : Int64}, sm 30000 x → sm 1048576 x := fun h => sm_mono h (by decide)
  have sx : sm 100000 (adx - bdx) := by unfold sm; rw [sub_i (up2 c0) (up2 d0)]; have := c0.1; have := c0.2; have := d0.1; have := d0.2; omega
  have sy : sm 100000 (ady - bdy) := by unfold sm; rw [sub_i (up2 c1) (up2 d1)]; have := c1.1; have := c1.2; have := d1.1; have := d1.2; omega
  obtain ⟨g1, g2, g3⟩ := refI (up1 a0) (up1 a1) (up1 a2) (up1 a3) (up1 b0) (up1 b1) (up1 b2) (up1 b3) sx sy
  obtain ⟨n1, n2⟩ := NO_inf hN
  obtain ⟨⟨k1, k2, k3, k4⟩, ⟨s1, s2, s3, s4⟩, _⟩ := hN
  rw [pr_lt s1 s4 s3 s2] at hfd
  rw [sub_i (up2 b0) (up2 a2), sub_i (up2 b2) (up2 a0), sub_i (up2 b1) (up2 a3), sub_i (up2 b3) (up2 a1)] at n1 n2
  rw [Int64.lt_iff_toInt_lt, Int64.lt_iff_toInt_lt, Int64.lt_iff_toInt_lt, Int64.lt_iff_toInt_lt] at hfd
  have hiff : ((ax0.toInt < ax1.toInt ∧ ay0.toInt < ay1.toInt) ∧ (bx0.toInt < bx1.toInt ∧ by0.toInt < by1.toInt)) → ∀ p q : Int, ((True ∧ AxO (bx0.toInt - ax1.toInt) (bx1.toInt - ax0.toInt) (adx - bdx).toInt p q) ∧ AxO (by0.toInt - ay1.toInt) (by1.toInt - ay0.toInt) (ady - bdy).toInt p q) ↔ StO ax0 ay0 ax1 ay1 bx0 by0 bx1 by1 (adx - bdx) (ady - bdy) p q := by
    rintro ⟨⟨m1, m2⟩, m3, m4⟩ p q
    exact ⟨fun h => ⟨⟨⟨m1, m3⟩, h.1.2⟩, ⟨⟨m2, m4⟩, h.2⟩⟩, fun h => ⟨⟨trivial, h.1.2⟩, h.2.2⟩⟩
  have hfc : fd = true ↔ cFI ax0 ay0 ax1 ay1 bx0 by0 bx1 by1 (adx - bdx) (ady - bdy) := by
    rw [hfd, g1]
    constructor
    · rintro ⟨⟨⟨x1, x2⟩, x3⟩, x4⟩
      obtain ⟨p, q, y1, y2, y3, y4⟩ := n1.mp ⟨x1, x4⟩
      exact ⟨p, q, y1, y2, y3, (hiff ⟨x2, x3⟩ p q).mp y4⟩
    · rintro ⟨p, q, y1, y2, y3, y4⟩
      have hm : (ax0.toInt < ax1.toInt ∧ ay0.toInt < ay1.toInt) ∧ (bx0.toInt < bx1.toInt ∧ by0.toInt < by1.toInt) := ⟨⟨y4.1.1.1, y4.2.1.1⟩, ⟨y4.1.1.2, y4.2.1.2⟩⟩
      obtain ⟨x1, x2⟩ := n1.mpr ⟨p, q, y1, y2, y3, (hiff hm p q).mpr y4⟩
      exact ⟨⟨⟨x1, hm.1⟩, hm.2⟩, x2⟩
  refine ⟨hfc, ?_⟩
  cases hf : fd with
  | false =>
    have := g3 (fun z => by rw [hfc.mpr z] at hf; cases hf)
    rw [hf] at hup hlo
    rw [hup, hlo, this.1, this.2]; exact ⟨rfl, rfl⟩
  | true =>
    obtain ⟨u', l', z1, z2, z3, z4, z5⟩ := g2 (hfc.mp hf)
    obtain ⟨⟨⟨x1, x2⟩, x3⟩, x4⟩ := hfd.mp hf
    have hi := isInf_congr (fun p q => by rw [hiff ⟨x2, x3⟩ p q]) (n2 ⟨x1, x4⟩)
    have he := isInf_uniq hi z5
    obtain ⟨y1, y2⟩ := low_eq k3 k1 z1 z2 he
    obtain ⟨w1, w2⟩ := div_low k3 k1 s1.2 s2.2
    rw [hf] at hup hlo
    rw [hup, hlo, z3, z4, ← y1, ← y2]; exact ⟨w1, w2⟩
theorem tc_core {u l_ v w up lo : Int64} {bar fd : Bool} (a0 : sm 30000 ax0) (a1 : sm 30000 ay0) (a2 : sm 30000 ax1) (a3 : sm 30000 ay1) (b0 : sm 30000 bx0) (b1 : sm 30000 by0) (b2 : sm 30000 bx1) (b3 : sm 30000 by1) (c0 : sm 30000 adx) (c1 : sm 30000 ady) (d0 : sm 30000 bdx) (d1 : sm 30000 bdy)
    (hm : (ax0.toInt ≤ ax1.toInt ∧ ay0.toInt ≤ ay1.toInt) ∧ (bx0.toInt ≤ bx1.toInt ∧ by0.toInt ≤ by1.toInt))
    (hN : NC (fun p q => (True ∧ AxC (bx0 - ax1).toInt (bx1 - ax0).toInt (adx - bdx).toInt p q) ∧ AxC (by0 - ay1).toInt (by1 - ay0).toInt (ady - bdy).toInt p q) u l_ v w bar)
    (hfd : fd = true ↔ bar = false ∧ u * w ≤ v * l_) (hup : up = if fd then u / pDiv u l_ else -1) (hlo : lo = if fd then l_ / pDiv u l_ else 1) :
    (fd = true ↔ cFE ax0 ay0 ax1 ay1 bx0 by0 bx1 by1 (adx - bdx) (ady - bdy)) ∧ up = cUE ax0 ay0 ax1 ay1 bx0 by0 bx1 by1 (adx - bdx) (ady - bdy) ∧ lo = cLE ax0 ay0 ax1 ay1 bx0 by0 bx1 by1 (adx - bdx) (ady - bdy) := by
  have up1 : ∀ {x : Int64}, sm 30000 x → sm 100000 x := fun h => sm_mono h (by decide)
  have up2 : ∀ {x : Int64}, sm 30000 x → sm 1048576 x := fun h => sm_mono h (by decide)
  have sx : sm 100000 (adx - bdx) := by unfold sm; rw [sub_i (up2 c0) (up2 d0)]; have := c0.1; have := c0.2; have := d0.1; have := d0.2; omega
  have sy : sm 100000 (ady - bdy) := by unfold sm; rw [sub_i (up2 c1) (up2 d1)]; have := c1.1; have := c1.2; have := d1.1; have := d1.2; omega
  obtain ⟨g1, g2, g3⟩ := refE (up1 a0) (up1 a1) (up1 a2) (up1 a3) (up1 b0) (up1 b1) (up1 b2) (up1 b3) sx sy
  obtain ⟨n1, n2⟩ := NC_inf hN
  obtain ⟨⟨k1, k2, k3, k4⟩, ⟨s1, s2, s3, s4⟩, _⟩ := hN
  rw [pr_le s1 s4 s3 s2] at hfd
  rw [sub_i (up2 b0) (up2 a2), sub_i (up2 b2) (up2 a0), sub_i (up2 b1) (up2 a3), sub_i (up2 b3) (up2 a1)] at n1 n2
  have hiff : ∀ p q : Int, ((True ∧ AxC (bx0.toInt - ax1.toInt) (bx1.toInt - ax0.toInt) (adx - bdx).toInt p q) ∧ AxC (by0.toInt - ay1.toInt) (by1.toInt - ay0.toInt) (ady - bdy).toInt p q) ↔ StC ax0 ay0 ax1 ay1 bx0 by0 bx1 by1 (adx - bdx) (ady - bdy) p q := by
    obtain ⟨⟨m1, m2⟩, m3, m4⟩ := hm
    intro p q
    exact ⟨fun h => ⟨⟨⟨m1, m3⟩, h.1.2⟩, ⟨⟨m2, m4⟩, h.2⟩⟩, fun h => ⟨⟨trivial, h.1.2⟩, h.2.2⟩⟩
  have hfc : fd = true ↔ cFE ax0 ay0 ax1 ay1 bx0 by0 bx1 by1 (adx - bdx) (ady - bdy) := by
    rw [hfd, g1, n1]
    constructor
    · rintro ⟨p, q, y1, y2, y3, y4⟩; exact ⟨p, q, y1, y2, y3, (hiff p q).mp y4⟩
    · rintro ⟨p, q, y1, y2, y3, y4⟩; exact ⟨p, q, y1, y2, y3, (hiff p q).mpr y4⟩
  refine ⟨hfc, ?_⟩
  cases hf : fd with
  | false =>
    have := g3 (fun z => by rw [hfc.mpr z] at hf; cases hf)
    rw [hf] at hup hlo
    rw [hup, hlo, this.1, this.2]; exact ⟨rfl, rfl⟩
  | true =>
    obtain ⟨u', l', z1, z2, z3, z4, z5⟩ := g2 (hfc.mp hf)
    have hi := isInf_congr (fun p q => by rw [hiff p q]) (n2 (hfd.mp hf))
    have he := isInf_uniq hi z5
    obtain ⟨y1, y2⟩ := low_eq k3 k1 z1 z2 he
    obtain ⟨w1, w2⟩ := div_low k3 k1 s1.2 s2.2
    rw [hf] at hup hlo
    rw [hup, hlo, z3, z4, ← y1, ← y2]; exact ⟨w1, w2⟩
theorem sub_sm {x y : Int64} (hx : sm 30000 x) (hy : sm 30000 y) : sm 1048576 (x - y) := by
  have := hx.1; have := hx.2; have := hy.1; have := hy.2
  unfold sm; rw [sub_i (sm_mono hx (by decide)) (sm_mono hy (by decide))]; omega
/-- first overlap: the class's words are the reference's -/
theorem ov_eq (a0 : sm 30000 ax0) (a1 : sm 30000 ay0) (a2 : sm 30000 ax1) (a3 : sm 30000 ay1) (b0 : sm 30000 bx0) (b1 : sm 30000 by0) (b2 : sm 30000 bx1) (b3 : sm 30000 by1) (c0 : sm 30000 adx) (c1 : sm 30000 ady) (d0 : sm 30000 bdx) (d1 : sm 30000 bdy) :
    (oFd ax0 ay0 ax1 ay1 adx ady bx0 by0 bx1 by1 bdx bdy = true ↔ cFI ax0 ay0 ax1 ay1 bx0 by0 bx1 by1 (adx - bdx) (ady - bdy)) ∧ oUp ax0 ay0 ax1 ay1 adx ady bx0 by0 bx1 by1 bdx bdy = cUI ax0 ay0 ax1 ay1 bx0 by0 bx1 by1 (adx - bdx) (ady - bdy) ∧ oLo ax0 ay0 ax1 ay1 adx ady bx0 by0 bx1 by1 bdx bdy = cLI ax0 ay0 ax1 ay1 bx0 by0 bx1 by1 (adx - bdx) (ady - bdy) :=
  ov_core a0 a1 a2 a3 b0 b1 b2 b3 c0 c1 d0 d1 (NO_step (NO_step NO_start (sub_sm b0 a2) (sub_sm b2 a0) (sub_sm c0 d0)) (sub_sm b1 a3) (sub_sm b3 a1) (sub_sm c1 d1)) (by unfold oFd; simp only [Bool.and_eq_true, Bool.not_eq_true', decide_eq_true_iff]) rfl rfl
/-- first touch -/
theorem tc_eq (a0 : sm 30000 ax0) (a1 : sm 30000 ay0) (a2 : sm 30000 ax1) (a3 : sm 30000 ay1) (b0 : sm 30000 bx0) (b1 : sm 30000 by0) (b2 : sm 30000 bx1) (b3 : sm 30000 by1) (c0 : sm 30000 adx) (c1 : sm 30000 ady) (d0 : sm 30000 bdx) (d1 : sm 30000 bdy)
    (hm : (ax0.toInt ≤ ax1.toInt ∧ ay0.toInt ≤ ay1.toInt) ∧ (bx0.toInt ≤ bx1.toInt ∧ by0.toInt ≤ by1.toInt)) :
    (wFd ax0 ay0 ax1 ay1 adx ady bx0 by0 bx1 by1 bdx bdy = true ↔ cFE ax0 ay0 ax1 ay1 bx0 by0 bx1 by1 (adx - bdx) (ady - bdy)) ∧ wUp ax0 ay0 ax1 ay1 adx ady bx0 by0 bx1 by1 bdx bdy = cUE ax0 ay0 ax1 ay1 bx0 by0 bx1 by1 (adx - bdx) (ady - bdy) ∧ wLo ax0 ay0 ax1 ay1 adx ady bx0 by0 bx1 by1 bdx bdy = cLE ax0 ay0 ax1 ay1 bx0 by0 bx1 by1 (adx - bdx) (ady - bdy) :=
  tc_core a0 a1 a2 a3 b0 b1 b2 b3 c0 c1 d0 d1 hm (NC_step (NC_step NC_start (sub_sm b0 a2) (sub_sm b2 a0) (sub_sm c0 d0)) (sub_sm b1 a3) (sub_sm b3 a1) (sub_sm c1 d1)) (by unfold wFd; simp only [Bool.and_eq_true, Bool.not_eq_true', decide_eq_true_iff]) rfl rfl
end Boxes
