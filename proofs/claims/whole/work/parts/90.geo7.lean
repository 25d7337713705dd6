/-! shapes that have a place in common -/
def cmb (k1 k2 : Int) (q : Qt) (r : Qt) : Qt := (k1 * q.1 + k2 * r.1, k1 * q.2.1 + k2 * r.2.1, k1 * q.2.2 + k2 * r.2.2)
theorem crh_cmb (a b : Pt) (k1 k2 : Int) (q r : Qt) : crh a b (cmb k1 k2 q r) = k1 * crh a b q + k2 * crh a b r := by unfold crh cmb; simp only; grind
/-- leaving a triangle: over the side a b -/
theorem leave1 {a b d : Pt} {q : Qt} {t : Pt} (hm : 0 < q.2.2) (hD : 0 < crs a b d) (h1 : 0 ≤ crh a b q) (h2 : 0 ≤ crh b d q) (h3 : 0 ≤ crh d a q) (n1 : crs a b t < 0)
    (n2 : 0 ≤ crs b d t ∨ crh a b q * -crs b d t ≤ crh b d q * -crs a b t) (n3 : 0 ≤ crs d a t ∨ crh a b q * -crs d a t ≤ crh d a q * -crs a b t) :
    ∃ k1 k2 : Int, 0 ≤ k1 ∧ 0 ≤ k2 ∧ 0 < (cmb k1 k2 q (em t)).2.2 ∧ SegH a b (cmb k1 k2 q (em t)) := by
  refine ⟨-crs a b t, crh a b q, by omega, h1, ?_, ?_⟩
  · have := Int.mul_pos (show 0 < -crs a b t by omega) hm
    show 0 < -crs a b t * q.2.2 + crh a b q * 1
    omega
  · have c1 : crh a b (cmb (-crs a b t) (crh a b q) q (em t)) = 0 := by rw [crh_cmb, crh_em]; grind
    have c2 : 0 ≤ crh b d (cmb (-crs a b t) (crh a b q) q (em t)) := by
      rw [crh_cmb, crh_em]
      have i := Int.mul_nonneg (show 0 ≤ -crs a b t by omega) h2
      rcases n2 with n2 | n2
      · have := Int.mul_nonneg h1 n2; omega
      · rw [Int.mul_neg] at n2; rw [Int.mul_comm (-crs a b t)]; omega
    have c3 : 0 ≤ crh d a (cmb (-crs a b t) (crh a b q) q (em t)) := by
      rw [crh_cmb, crh_em]
      have i := Int.mul_nonneg (show 0 ≤ -crs a b t by omega) h3
      rcases n3 with n3 | n3
      · have := Int.mul_nonneg h1 n3; omega
      · rw [Int.mul_neg] at n3; rw [Int.mul_comm (-crs a b t)]; omega
    generalize cmb (-crs a b t) (crh a b q) q (em t) = r at *
    have s1 : crh a b r + crh b d r + crh d a r = r.2.2 * crs a b d := by unfold crh crs; grind
    have s2 : crh b d r * a.1 + crh d a r * b.1 + crh a b r * d.1 = crs a b d * r.1 := by unfold crh crs; grind
    have s3 : crh b d r * a.2 + crh d a r * b.2 + crh a b r * d.2 = crs a b d * r.2.1 := by unfold crh crs; grind
    rw [c1] at s1 s2 s3
    simp only [Int.zero_add, Int.zero_mul, Int.add_zero] at s1 s2 s3
    have bb : ∀ x y z : Int, crh b d r * x + crh d a r * y = crs a b d * z → bt (r.2.2 * x) (r.2.2 * y) z := by
      intro x y z e
      have f1 : crs a b d * (z - r.2.2 * x) = crh d a r * (y - x) := by grind
      have f2 : crs a b d * (r.2.2 * y - z) = crh b d r * (y - x) := by grind
      unfold bt
      by_cases o : x ≤ y
      · left
        have i1 := Int.mul_nonneg c3 (show 0 ≤ y - x by omega)
        have i2 := Int.mul_nonneg c2 (show 0 ≤ y - x by omega)
        have j1 := nn_of hD (show 0 ≤ crs a b d * (z - r.2.2 * x) by omega)
        have j2 := nn_of hD (show 0 ≤ crs a b d * (r.2.2 * y - z) by omega)
        omega
      · right
        have i1 := Int.mul_nonneg c3 (show 0 ≤ x - y by omega)
        have i2 := Int.mul_nonneg c2 (show 0 ≤ x - y by omega)
        have j1 := nn_of hD (show 0 ≤ crs a b d * (r.2.2 * x - z) by
          have : crs a b d * (r.2.2 * x - z) = crh d a r * (x - y) := by grind
          omega)
        have j2 := nn_of hD (show 0 ≤ crs a b d * (z - r.2.2 * y) by
          have : crs a b d * (z - r.2.2 * y) = crh b d r * (x - y) := by grind
          omega)
        omega
    exact ⟨c1, bb _ _ _ s2, bb _ _ _ s3⟩
def Lv (a b d : Pt) (q : Qt) (t : Pt) : Prop := ∃ k1 k2 : Int, 0 ≤ k1 ∧ 0 ≤ k2 ∧ 0 < (cmb k1 k2 q (em t)).2.2 ∧ (SegH a b (cmb k1 k2 q (em t)) ∨ SegH b d (cmb k1 k2 q (em t)) ∨ SegH d a (cmb k1 k2 q (em t)))
theorem lvA {a b d : Pt} {q : Qt} {t : Pt} (h : ∃ k1 k2 : Int, 0 ≤ k1 ∧ 0 ≤ k2 ∧ 0 < (cmb k1 k2 q (em t)).2.2 ∧ SegH a b (cmb k1 k2 q (em t))) : Lv a b d q t := by
  obtain ⟨k1, k2, g1, g2, g3, g4⟩ := h; exact ⟨k1, k2, g1, g2, g3, Or.inl g4⟩
theorem lvB {a b d : Pt} {q : Qt} {t : Pt} (h : ∃ k1 k2 : Int, 0 ≤ k1 ∧ 0 ≤ k2 ∧ 0 < (cmb k1 k2 q (em t)).2.2 ∧ SegH b d (cmb k1 k2 q (em t))) : Lv a b d q t := by
  obtain ⟨k1, k2, g1, g2, g3, g4⟩ := h; exact ⟨k1, k2, g1, g2, g3, Or.inr (Or.inl g4)⟩
theorem lvC {a b d : Pt} {q : Qt} {t : Pt} (h : ∃ k1 k2 : Int, 0 ≤ k1 ∧ 0 ≤ k2 ∧ 0 < (cmb k1 k2 q (em t)).2.2 ∧ SegH d a (cmb k1 k2 q (em t))) : Lv a b d q t := by
  obtain ⟨k1, k2, g1, g2, g3, g4⟩ := h; exact ⟨k1, k2, g1, g2, g3, Or.inr (Or.inr g4)⟩
theorem leave3 {a b d : Pt} {q : Qt} {t : Pt} (hm : 0 < q.2.2) (hD : 0 < crs a b d) (h1 : 0 ≤ crh a b q) (h2 : 0 ≤ crh b d q) (h3 : 0 ≤ crh d a q) (hn : ¬ (0 ≤ crs a b t ∧ 0 ≤ crs b d t ∧ 0 ≤ crs d a t)) :
    Lv a b d q t := by
  have sum : crs a b t + crs b d t + crs d a t = crs a b d := by unfold crs; grind
  have d2 : 0 < crs b d a := by rw [← crs_cy]; exact hD
  have d3 : 0 < crs d a b := by rw [← crs_cy]; exact d2
  have A := fun z1 z2 z3 => leave1 (t := t) hm hD h1 h2 h3 z1 z2 z3
  have B := fun z1 z2 z3 => leave1 (t := t) hm d2 h2 h3 h1 z1 z2 z3
  have C := fun z1 z2 z3 => leave1 (t := t) hm d3 h3 h1 h2 z1 z2 z3
  have fA := fun z1 z2 z3 => lvA (b := b) (d := d) (A z1 z2 z3)
  have fB := fun z1 z2 z3 => lvB (a := a) (d := d) (B z1 z2 z3)
  have fC := fun z1 z2 z3 => lvC (a := a) (b := b) (C z1 z2 z3)
  by_cases na : crs a b t < 0
  · by_cases nb : crs b d t < 0
    · by_cases le : crh a b q * -crs b d t ≤ crh b d q * -crs a b t
      · exact fA na (Or.inr le) (Or.inl (by omega))
      · exact fB nb (Or.inl (by omega)) (Or.inr (by omega))
    · by_cases nc : crs d a t < 0
      · by_cases le : crh a b q * -crs d a t ≤ crh d a q * -crs a b t
        · exact fA na (Or.inl (by omega)) (Or.inr le)
        · exact fC nc (Or.inr (by omega)) (Or.inl (by omega))
      · exact fA na (Or.inl (by omega)) (Or.inl (by omega))
  · by_cases nb : crs b d t < 0
    · by_cases nc : crs d a t < 0
      · by_cases le : crh b d q * -crs d a t ≤ crh d a q * -crs b d t
        · exact fB nb (Or.inr le) (Or.inl (by omega))
        · exact fC nc (Or.inl (by omega)) (Or.inr (by omega))
      · exact fB nb (Or.inl (by omega)) (Or.inl (by omega))
    · by_cases nc : crs d a t < 0
      · exact fC nc (Or.inl (Int.not_lt.mp na)) (Or.inl (Int.not_lt.mp nb))
      · exact (hn ⟨Int.not_lt.mp na, Int.not_lt.mp nb, Int.not_lt.mp nc⟩).elim
theorem leave {S : Pt → Prop} {q : Qt} {t : Pt} (hm : 0 < q.2.2) (h : Cv S q) (hn : ¬ Cv S (em t)) : ∃ a b, S a ∧ S b ∧ ∃ k1 k2 : Int, 0 ≤ k1 ∧ 0 ≤ k2 ∧ 0 < (cmb k1 k2 q (em t)).2.2 ∧ SegH a b (cmb k1 k2 q (em t)) := by
  rcases h with ⟨a, b, ha, hb, h⟩ | ⟨a, b, d, ha, hb, hd, h0, h⟩
  · have e : cmb 1 0 q (em t) = q := by unfold cmb; simp
    exact ⟨a, b, ha, hb, 1, 0, by omega, by omega, by rw [e]; exact hm, by rw [e]; exact h⟩
  · have s1 : crh a b q + crh b d q + crh d a q = q.2.2 * crs a b d := by unfold crh crs; grind
    rcases h with ⟨h1, h2, h3⟩ | ⟨h1, h2, h3⟩
    · have hD : 0 < crs a b d := by
        have := nn_of hm (show 0 ≤ q.2.2 * crs a b d by omega); omega
      obtain ⟨k1, k2, g1, g2, g3, g4⟩ := leave3 (t := t) hm hD h1 h2 h3 (fun z => hn (Or.inr ⟨a, b, d, ha, hb, hd, h0, Or.inl (by rw [crh_em, crh_em, crh_em]; exact z)⟩))
      rcases g4 with g4 | g4 | g4
      · exact ⟨a, b, ha, hb, k1, k2, g1, g2, g3, g4⟩
      · exact ⟨b, d, hb, hd, k1, k2, g1, g2, g3, g4⟩
      · exact ⟨d, a, hd, ha, k1, k2, g1, g2, g3, g4⟩
    · have hD : 0 < crs b a d := by
        have := nn_of hm (show 0 ≤ q.2.2 * -crs a b d by rw [Int.mul_neg]; omega)
        rw [crs_sw]; omega
      obtain ⟨k1, k2, g1, g2, g3, g4⟩ := leave3 (a := b) (b := a) (d := d) (t := t) hm hD (by rw [crh_sw]; omega) (by rw [crh_sw]; omega) (by rw [crh_sw]; omega) (fun z => hn (Or.inr ⟨b, a, d, hb, ha, hd, by rw [crs_sw]; omega, Or.inl (by rw [crh_em, crh_em, crh_em]; exact z)⟩))
      rcases g4 with g4 | g4 | g4
      · exact ⟨b, a, hb, ha, k1, k2, g1, g2, g3, g4⟩
      · exact ⟨a, d, ha, hd, k1, k2, g1, g2, g3, g4⟩
      · exact ⟨d, b, hd, hb, k1, k2, g1, g2, g3, g4⟩
theorem In.cmb {c : Nat → Pt} {n : Nat} {q r : Qt} {k1 k2 : Int} (hn : 1 ≤ n) (hq : 0 < q.2.2) (hr : 0 < r.2.2) (h1 : 0 ≤ k1) (h2 : 0 ≤ k2) (iq : In c n q) (ir : In c n r) : In c n (cmb k1 k2 q r) := by
  have mono : ∀ m x y : Int, 0 < m → x ≤ y → m * x ≤ m * y := fun m x y hm h => Int.mul_le_mul_of_nonneg_left h (by omega)
  have up : ∀ (f : Nat → Int) (X Y mq mr : Int), 0 < mq → 0 < mr → (∃ k, k < n ∧ X ≤ mq * f k) → (∃ k, k < n ∧ Y ≤ mr * f k) → ∃ k, k < n ∧ k1 * X + k2 * Y ≤ (k1 * mq + k2 * mr) * f k := by
    rintro f X Y mq mr g1 g2 ⟨i, hi, e1⟩ ⟨j, hj, e2⟩
    obtain ⟨k, hk, hmx⟩ := amax f n hn
    refine ⟨k, hk, ?_⟩
    have a1 := mono mq _ _ g1 (hmx i hi)
    have a2 := mono mr _ _ g2 (hmx j hj)
    have b1 := Int.mul_le_mul_of_nonneg_left (show X ≤ mq * f k by omega) h1
    have b2 := Int.mul_le_mul_of_nonneg_left (show Y ≤ mr * f k by omega) h2
    have e : (k1 * mq + k2 * mr) * f k = k1 * (mq * f k) + k2 * (mr * f k) := by grind
    omega
  have dn : ∀ (f : Nat → Int) (X Y mq mr : Int), 0 < mq → 0 < mr → (∃ k, k < n ∧ mq * f k ≤ X) → (∃ k, k < n ∧ mr * f k ≤ Y) → ∃ k, k < n ∧ (k1 * mq + k2 * mr) * f k ≤ k1 * X + k2 * Y := by
    rintro f X Y mq mr g1 g2 ⟨i, hi, e1⟩ ⟨j, hj, e2⟩
    obtain ⟨k, hk, e⟩ := up (fun k => -f k) (-X) (-Y) mq mr g1 g2 ⟨i, hi, by rw [Int.mul_neg]; omega⟩ ⟨j, hj, by rw [Int.mul_neg]; omega⟩
    refine ⟨k, hk, ?_⟩
    simp only [Int.mul_neg] at e
    omega
  obtain ⟨⟨a1, a2, a3, a4⟩, a5⟩ := iq
  obtain ⟨⟨b1, b2, b3, b4⟩, b5⟩ := ir
  refine ⟨⟨up (fun k => (c k).1) _ _ _ _ hq hr a1 b1, dn (fun k => (c k).1) _ _ _ _ hq hr a2 b2, up (fun k => (c k).2) _ _ _ _ hq hr a3 b3, dn (fun k => (c k).2) _ _ _ _ hq hr a4 b4⟩, fun k hk => ?_⟩
  rw [crh_cmb]
  have i1 := Int.mul_nonneg h1 (a5 k hk)
  have i2 := Int.mul_nonneg h2 (b5 k hk)
  omega
theorem self_cv {S : Pt → Prop} {s : Pt} (hs : S s) : Cv S (em s) := Or.inl ⟨s, s, hs, hs, segI_iff.mpr ⟨crs_ab s s, Or.inl ⟨Int.le_refl _, Int.le_refl _⟩, Or.inl ⟨Int.le_refl _, Int.le_refl _⟩⟩⟩
/-- a common place is found by a first point inside, or by two segments -/
theorem common {S O T O' : Pt → Prop} {c e : Nat → Pt} {n k : Nat} (hS : Shp S O c n) (hT : Shp T O' e k) {q : Qt} (hm : 0 < q.2.2) (h1 : Cv S q) (h2 : Cv T q) {s0 t0 : Pt} (hs0 : S s0) (ht0 : T t0) :
    Cv S (em t0) ∨ Cv T (em s0) ∨ ∃ a b g h, S a ∧ S b ∧ T g ∧ T h ∧ Meet a b g h := by
  by_cases f1 : Cv S (em t0)
  · exact Or.inl f1
  by_cases f2 : Cv T (em s0)
  · exact Or.inr (Or.inl f2)
  right; right
  obtain ⟨a, b, ha, hb, k1, k2, g1, g2, g3, g4⟩ := leave hm h1 f1
  have hr : Cv T (cmb k1 k2 q (em t0)) := (hT.iff g3).mp (In.cmb hT.poly.pos hm (em_pos t0) g1 g2 ((hT.iff hm).mpr h2) (hT.inS ht0))
  generalize cmb k1 k2 q (em t0) = r at *
  by_cases f3 : Cv T (em a)
  · obtain ⟨g, h, hg, hh, l1, l2, m1, m2, m3, m4⟩ := leave (em_pos a) f3 f2
    refine ⟨a, s0, g, h, ha, hs0, hg, hh, ?_⟩
    obtain ⟨x', y', w2⟩ := seg_w m3 m4
    refine meet_w (x := l1) (y := l2) m3 ⟨m1, m2, by omega, ?_, ?_, ?_⟩ w2
    · have := m3; unfold cmb em at this; simp only [Int.mul_one] at this; omega
    · unfold cmb em; simp only; grind
    · unfold cmb em; simp only; grind
  · obtain ⟨g, h, hg, hh, l1, l2, m1, m2, m3, m4⟩ := leave g3 hr f3
    refine ⟨a, b, g, h, ha, hb, hg, hh, ?_⟩
    obtain ⟨x', y', w2⟩ := seg_w m3 m4
    obtain ⟨x, y, w1⟩ := seg_w g3 g4
    obtain ⟨q1, q2, _, q3, q4, q5⟩ := w1
    simp only [Int.zero_mul, Int.add_zero] at q3 q4 q5
    have p1 := Int.mul_nonneg m1 (Int.mul_nonneg (show 0 ≤ r.2.2 by omega) q1)
    have p2 := Int.mul_nonneg m1 (Int.mul_nonneg (show 0 ≤ r.2.2 by omega) q2)
    have p3 := Int.mul_nonneg m2 (show 0 ≤ x + y by omega)
    have p4 := Int.mul_pos q3 m3
    have e0 : (x + y) * (cmb l1 l2 r (em a)).2.2 = (l1 * (r.2.2 * x) + l2 * (x + y)) + l1 * (r.2.2 * y) := by unfold cmb em; simp only; grind
    refine meet_w (x := l1 * (r.2.2 * x) + l2 * (x + y)) (y := l1 * (r.2.2 * y)) m3 ⟨by omega, p2, by omega, by omega, ?_, ?_⟩ w2
    · simp only [Int.zero_mul, Int.add_zero]
      rw [← e0]
      have : (l1 * (r.2.2 * x) + l2 * (x + y)) * a.1 + l1 * (r.2.2 * y) * b.1 = (x + y) * (cmb l1 l2 r (em a)).1 := by unfold cmb em; simp only; grind
      rw [this]; grind
    · simp only [Int.zero_mul, Int.add_zero]
      rw [← e0]
      have : (l1 * (r.2.2 * x) + l2 * (x + y)) * a.2 + l1 * (r.2.2 * y) * b.2 = (x + y) * (cmb l1 l2 r (em a)).2.1 := by unfold cmb em; simp only; grind
      rw [this]; grind
