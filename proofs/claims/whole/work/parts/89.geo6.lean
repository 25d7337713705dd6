/-! two segments that have a place in common -/
def SegI (a b s : Pt) : Prop := crs a b s = 0 ∧ bt a.1 b.1 s.1 ∧ bt a.2 b.2 s.2
def Meet (a b g h : Pt) : Prop := SegI a b g ∨ SegI a b h ∨ SegI g h a ∨ SegI g h b ∨ (crs a b g * crs a b h < 0 ∧ crs g h a * crs g h b < 0)
theorem segI_iff {a b s : Pt} : SegH a b (em s) ↔ SegI a b s := by
  unfold SegH SegI
  rw [crh_em]
  unfold em
  simp only [Int.one_mul]
theorem btw {a b s x y : Int} (hx : 0 ≤ x) (hy : 0 ≤ y) (hp : 0 < x + y) (h : x * a + y * b = (x + y) * s) : bt a b s := by
  unfold bt
  have e1 : (x + y) * (s - a) = y * (b - a) := by grind
  have e2 : (x + y) * (b - s) = x * (b - a) := by grind
  by_cases c : a ≤ b
  · left
    have i1 := Int.mul_nonneg hy (show 0 ≤ b - a by omega)
    have i2 := Int.mul_nonneg hx (show 0 ≤ b - a by omega)
    have j1 := nn_of hp (show 0 ≤ (x + y) * (s - a) by omega)
    have j2 := nn_of hp (show 0 ≤ (x + y) * (b - s) by omega)
    omega
  · right
    have i1 := Int.mul_nonneg hy (show 0 ≤ a - b by omega)
    have i2 := Int.mul_nonneg hx (show 0 ≤ a - b by omega)
    have e3 : (x + y) * (a - s) = y * (a - b) := by grind
    have e4 : (x + y) * (s - b) = x * (a - b) := by grind
    have j1 := nn_of hp (show 0 ≤ (x + y) * (a - s) by omega)
    have j2 := nn_of hp (show 0 ≤ (x + y) * (s - b) by omega)
    omega
theorem vv_pos {a b : Pt} (h : ¬ a = b) : 0 < (b.1 - a.1) * (b.1 - a.1) + (b.2 - a.2) * (b.2 - a.2) := by
  have sq : ∀ x : Int, 0 ≤ x * x := fun x => by
    by_cases c : 0 ≤ x
    · exact Int.mul_nonneg c c
    · have := Int.mul_nonneg (show 0 ≤ -x by omega) (show 0 ≤ -x by omega); rw [Int.neg_mul_neg] at this; exact this
  have s1 := sq (b.1 - a.1)
  have s2 := sq (b.2 - a.2)
  by_cases z1 : (b.1 - a.1) * (b.1 - a.1) = 0
  · by_cases z2 : (b.2 - a.2) * (b.2 - a.2) = 0
    · exfalso
      have y1 : b.1 - a.1 = 0 := by rcases Int.mul_eq_zero.mp z1 with y | y <;> exact y
      have y2 : b.2 - a.2 = 0 := by rcases Int.mul_eq_zero.mp z2 with y | y <;> exact y
      exact h (Prod.ext (by omega) (by omega))
    · omega
  · omega
def dt (d a : Pt) : Int := d.1 * a.1 + d.2 * a.2
/-- points on the line of a and b, by how far they go -/
theorem on_line {a b p q s : Pt} (hab : ¬ a = b) (hp : crs a b p = 0) (hq : crs a b q = 0) (hs : crs a b s = 0) (h1 : dt (b.1 - a.1, b.2 - a.2) p ≤ dt (b.1 - a.1, b.2 - a.2) s) (h2 : dt (b.1 - a.1, b.2 - a.2) s ≤ dt (b.1 - a.1, b.2 - a.2) q) : SegI p q s := by
  have hV := vv_pos hab
  unfold dt at h1 h2
  simp only at h1 h2
  unfold crs at hp hq hs
  have e1 : ((b.1 - a.1) * (b.1 - a.1) + (b.2 - a.2) * (b.2 - a.2)) * (s.1 - p.1) = (((b.1 - a.1) * s.1 + (b.2 - a.2) * s.2) - ((b.1 - a.1) * p.1 + (b.2 - a.2) * p.2)) * (b.1 - a.1) := by grind
  have e2 : ((b.1 - a.1) * (b.1 - a.1) + (b.2 - a.2) * (b.2 - a.2)) * (s.2 - p.2) = (((b.1 - a.1) * s.1 + (b.2 - a.2) * s.2) - ((b.1 - a.1) * p.1 + (b.2 - a.2) * p.2)) * (b.2 - a.2) := by grind
  have e3 : ((b.1 - a.1) * (b.1 - a.1) + (b.2 - a.2) * (b.2 - a.2)) * (q.1 - s.1) = (((b.1 - a.1) * q.1 + (b.2 - a.2) * q.2) - ((b.1 - a.1) * s.1 + (b.2 - a.2) * s.2)) * (b.1 - a.1) := by grind
  have e4 : ((b.1 - a.1) * (b.1 - a.1) + (b.2 - a.2) * (b.2 - a.2)) * (q.2 - s.2) = (((b.1 - a.1) * q.1 + (b.2 - a.2) * q.2) - ((b.1 - a.1) * s.1 + (b.2 - a.2) * s.2)) * (b.2 - a.2) := by grind
  generalize (b.1 - a.1) * (b.1 - a.1) + (b.2 - a.2) * (b.2 - a.2) = V at *
  have hk1 : 0 ≤ ((b.1 - a.1) * s.1 + (b.2 - a.2) * s.2) - ((b.1 - a.1) * p.1 + (b.2 - a.2) * p.2) := by omega
  have hk2 : 0 ≤ ((b.1 - a.1) * q.1 + (b.2 - a.2) * q.2) - ((b.1 - a.1) * s.1 + (b.2 - a.2) * s.2) := by omega
  generalize ((b.1 - a.1) * s.1 + (b.2 - a.2) * s.2) - ((b.1 - a.1) * p.1 + (b.2 - a.2) * p.2) = k1 at *
  generalize ((b.1 - a.1) * q.1 + (b.2 - a.2) * q.2) - ((b.1 - a.1) * s.1 + (b.2 - a.2) * s.2) = k2 at *
  have sgn : ∀ x y z w d : Int, V * (y - x) = k1 * d → V * (z - y) = k2 * d → w = d → bt x z y := by
    intro x y z w d f1 f2 _
    unfold bt
    by_cases c : 0 ≤ d
    · left
      have i1 := Int.mul_nonneg hk1 c
      have i2 := Int.mul_nonneg hk2 c
      have j1 := nn_of hV (show 0 ≤ V * (y - x) by omega)
      have j2 := nn_of hV (show 0 ≤ V * (z - y) by omega)
      omega
    · right
      have i1 := Int.mul_nonneg hk1 (show 0 ≤ -d by omega)
      have i2 := Int.mul_nonneg hk2 (show 0 ≤ -d by omega)
      rw [Int.mul_neg] at i1 i2
      have j1 := nn_of hV (show 0 ≤ V * (x - y) by rw [show x - y = -(y - x) by omega, Int.mul_neg]; omega)
      have j2 := nn_of hV (show 0 ≤ V * (y - z) by rw [show y - z = -(z - y) by omega, Int.mul_neg]; omega)
      omega
  refine ⟨?_, sgn _ _ _ _ _ e1 e3 rfl, sgn _ _ _ _ _ e2 e4 rfl⟩
  have hz : V * (V * crs p q s) = 0 := by
    have : V * (V * crs p q s) = (V * (q.1 - s.1) + V * (s.1 - p.1)) * (V * (s.2 - p.2)) - (V * (q.2 - s.2) + V * (s.2 - p.2)) * (V * (s.1 - p.1)) := by unfold crs; grind
    rw [this, e1, e2, e3, e4]; grind
  rcases Int.mul_eq_zero.mp hz with z | z
  · omega
  · rcases Int.mul_eq_zero.mp z with z | z
    · omega
    · exact z
theorem wE {x y x' y' a b g h m X : Int} (hm : 0 < m) (h1 : (x * a + y * b) * m = (x + y) * X) (h2 : (x' * g + y' * h) * m = (x' + y') * X) : (x' + y') * (x * a + y * b) = (x + y) * (x' * g + y' * h) := by
  refine Int.eq_of_mul_eq_mul_right (a := m) (by omega) ?_
  rw [Int.mul_assoc, Int.mul_assoc, h1, h2, Int.mul_left_comm]
theorem wU {x y x' y' : Int} {a b g h : Pt} (E1 : (x' + y') * (x * a.1 + y * b.1) = (x + y) * (x' * g.1 + y' * h.1)) (E2 : (x' + y') * (x * a.2 + y * b.2) = (x + y) * (x' * g.2 + y' * h.2)) : (x + y) * (x' * crs a b g + y' * crs a b h) = 0 := by
  have e : (x + y) * (x' * crs a b g + y' * crs a b h) = (b.1 - a.1) * ((x + y) * (x' * g.2 + y' * h.2) - (x' + y') * (x * a.2 + y * b.2)) - (b.2 - a.2) * ((x + y) * (x' * g.1 + y' * h.1) - (x' + y') * (x * a.1 + y * b.1)) := by clear E1 E2; unfold crs; grind
  rw [e, E1, E2, Int.sub_self, Int.sub_self, Int.mul_zero, Int.mul_zero]; rfl
theorem wP {x y x' y' : Int} {a b g h : Pt} (d : Pt) (E1 : (x' + y') * (x * a.1 + y * b.1) = (x + y) * (x' * g.1 + y' * h.1)) (E2 : (x' + y') * (x * a.2 + y * b.2) = (x + y) * (x' * g.2 + y' * h.2)) : (x' + y') * (x * dt d a + y * dt d b) = (x + y) * (x' * dt d g + y' * dt d h) := by
  have e1 : (x' + y') * (x * dt d a + y * dt d b) = d.1 * ((x' + y') * (x * a.1 + y * b.1)) + d.2 * ((x' + y') * (x * a.2 + y * b.2)) := by clear E1 E2; unfold dt; grind
  have e2 : (x + y) * (x' * dt d g + y' * dt d h) = d.1 * ((x + y) * (x' * g.1 + y' * h.1)) + d.2 * ((x + y) * (x' * g.2 + y' * h.2)) := by clear E1 E2; unfold dt; grind
  rw [e1, e2, E1, E2]
theorem low_no {x y x' y' A B G H : Int} (e0 : (x' + y') * (x * A + y * B) = (x + y) * (x' * G + y' * H)) (hx : 0 < x) (hy : 0 < y) (hx' : 0 < x') (hy' : 0 < y') (hd : A ≤ B) (k1 : G < A) (k2 : H < A) : False := by
  have i1 := Int.mul_pos hx' (show 0 < A - G by omega)
  have i2 := Int.mul_pos hy' (show 0 < A - H by omega)
  have i3 := Int.mul_nonneg (show 0 ≤ y by omega) (show 0 ≤ B - A by omega)
  have i4 := Int.mul_pos (show 0 < x + y by omega) (show 0 < x' * (A - G) + y' * (A - H) by omega)
  have i5 := Int.mul_nonneg (show 0 ≤ x' + y' by omega) i3
  have e : (x + y) * (x' * (A - G) + y' * (A - H)) + (x' + y') * (y * (B - A)) = (x' + y') * (x * A + y * B) - (x + y) * (x' * G + y' * H) := by clear i1 i2 i3 i4 i5 e0; grind
  omega
theorem hi_no {x y x' y' A B G H : Int} (e0 : (x' + y') * (x * A + y * B) = (x + y) * (x' * G + y' * H)) (hx : 0 < x) (hy : 0 < y) (hx' : 0 < x') (hy' : 0 < y') (hd : A ≤ B) (k1 : B < G) (k2 : B < H) : False := by
  have i1 := Int.mul_pos hx' (show 0 < G - B by omega)
  have i2 := Int.mul_pos hy' (show 0 < H - B by omega)
  have i3 := Int.mul_nonneg (show 0 ≤ x by omega) (show 0 ≤ B - A by omega)
  have i4 := Int.mul_pos (show 0 < x + y by omega) (show 0 < x' * (G - B) + y' * (H - B) by omega)
  have i5 := Int.mul_nonneg (show 0 ≤ x' + y' by omega) i3
  have e : (x + y) * (x' * (G - B) + y' * (H - B)) + (x' + y') * (x * (B - A)) = (x + y) * (x' * G + y' * H) - (x' + y') * (x * A + y * B) := by clear i1 i2 i3 i4 i5 e0; grind
  omega
theorem crs_d4 (a b g h : Pt) : crs a b h = crs a b g - (crs g h b - crs g h a) := by unfold crs; grind
theorem sg_opp {p q s t : Int} (hp : 0 < p) (hq : 0 < q) (e : p * s + q * t = 0) : (s = 0 ∧ t = 0) ∨ s * t < 0 := by
  rcases Int.lt_trichotomy s 0 with hs | hs | hs
  · right
    have ht : 0 < t := by
      by_cases z : 0 < t
      · exact z
      · have a1 := Int.mul_pos hp (show 0 < -s by omega)
        have a2 := Int.mul_nonneg (show 0 ≤ q by omega) (show 0 ≤ -t by omega)
        rw [Int.mul_neg] at a1 a2; omega
    have := Int.mul_pos (show 0 < -s by omega) ht; rw [Int.neg_mul] at this; omega
  · left; subst hs
    rw [Int.mul_zero, Int.zero_add] at e
    exact ⟨rfl, (Int.mul_eq_zero.mp e).resolve_left (by omega)⟩
  · right
    have ht : t < 0 := by
      by_cases z : t < 0
      · exact z
      · have a1 := Int.mul_pos hp hs
        have a2 := Int.mul_nonneg (show 0 ≤ q by omega) (show 0 ≤ t by omega)
        omega
    have := Int.mul_pos hs (show 0 < -t by omega); rw [Int.mul_neg] at this; omega
theorem meet_w {a b g h : Pt} {r : Qt} {x y x' y' : Int} (hm : 0 < r.2.2) (w1 : Wq a b a x y 0 r) (w2 : Wq g h g x' y' 0 r) : Meet a b g h := by
  obtain ⟨hx, hy, _, hp, hX, hY⟩ := w1
  obtain ⟨hx', hy', _, hp', hX', hY'⟩ := w2
  simp only [Int.zero_mul, Int.add_zero] at hp hX hY hp' hX' hY'
  -- both as sums without r
  have E1 := wE hm hX hX'
  have E2 := wE hm hY hY'
  have U0 := (Int.mul_eq_zero.mp (wU E1 E2)).resolve_left (by omega)
  have Z0 := (Int.mul_eq_zero.mp (wU E1.symm E2.symm)).resolve_left (by omega)
  -- r is an end
  by_cases c1 : x' = 0
  · subst c1
    simp only [Int.zero_mul, Int.zero_add] at E1 E2 U0 hp'
    have f1 : x * a.1 + y * b.1 = (x + y) * h.1 := Int.eq_of_mul_eq_mul_left (a := y') (by omega) (by rw [E1]; exact Int.mul_left_comm _ _ _)
    have f2 : x * a.2 + y * b.2 = (x + y) * h.2 := Int.eq_of_mul_eq_mul_left (a := y') (by omega) (by rw [E2]; exact Int.mul_left_comm _ _ _)
    have f3 := (Int.mul_eq_zero.mp U0).resolve_left (by omega)
    exact Or.inr (Or.inl ⟨f3, btw hx hy hp f1, btw hx hy hp f2⟩)
  by_cases c2 : y' = 0
  · subst c2
    simp only [Int.zero_mul, Int.add_zero] at E1 E2 U0 hp'
    have f1 : x * a.1 + y * b.1 = (x + y) * g.1 := Int.eq_of_mul_eq_mul_left (a := x') (by omega) (by rw [E1]; exact Int.mul_left_comm _ _ _)
    have f2 : x * a.2 + y * b.2 = (x + y) * g.2 := Int.eq_of_mul_eq_mul_left (a := x') (by omega) (by rw [E2]; exact Int.mul_left_comm _ _ _)
    have f3 := (Int.mul_eq_zero.mp U0).resolve_left (by omega)
    exact Or.inl ⟨f3, btw hx hy hp f1, btw hx hy hp f2⟩
  by_cases c3 : x = 0
  · subst c3
    simp only [Int.zero_mul, Int.zero_add] at E1 E2 Z0 hp
    have f1 : x' * g.1 + y' * h.1 = (x' + y') * b.1 := Int.eq_of_mul_eq_mul_left (a := y) (by omega) (by rw [← E1]; exact Int.mul_left_comm _ _ _)
    have f2 : x' * g.2 + y' * h.2 = (x' + y') * b.2 := Int.eq_of_mul_eq_mul_left (a := y) (by omega) (by rw [← E2]; exact Int.mul_left_comm _ _ _)
    have f3 := (Int.mul_eq_zero.mp Z0).resolve_left (by omega)
    exact Or.inr (Or.inr (Or.inr (Or.inl ⟨f3, btw hx' hy' hp' f1, btw hx' hy' hp' f2⟩)))
  by_cases c4 : y = 0
  · subst c4
    simp only [Int.zero_mul, Int.add_zero] at E1 E2 Z0 hp
    have f1 : x' * g.1 + y' * h.1 = (x' + y') * a.1 := Int.eq_of_mul_eq_mul_left (a := x) (by omega) (by rw [← E1]; exact Int.mul_left_comm _ _ _)
    have f2 : x' * g.2 + y' * h.2 = (x' + y') * a.2 := Int.eq_of_mul_eq_mul_left (a := x) (by omega) (by rw [← E2]; exact Int.mul_left_comm _ _ _)
    have f3 := (Int.mul_eq_zero.mp Z0).resolve_left (by omega)
    exact Or.inr (Or.inr (Or.inl ⟨f3, btw hx' hy' hp' f1, btw hx' hy' hp' f2⟩))
  -- it lies within both
  have lineAB : ¬ a = b → crs a b g = 0 → crs a b h = 0 → Meet a b g h := by
    intro hab hg hh
    have ha : crs a b a = 0 := crs_ab a b
    have hb : crs a b b = 0 := crs_bb a b
    have P := wP (b.1 - a.1, b.2 - a.2) E1 E2
    have hd : dt (b.1 - a.1, b.2 - a.2) a ≤ dt (b.1 - a.1, b.2 - a.2) b := by
      have := vv_pos hab; unfold dt; simp only
      have e : ((b.1 - a.1) * b.1 + (b.2 - a.2) * b.2) - ((b.1 - a.1) * a.1 + (b.2 - a.2) * a.2) = (b.1 - a.1) * (b.1 - a.1) + (b.2 - a.2) * (b.2 - a.2) := by
        rw [Int.mul_sub, Int.mul_sub]; omega
      omega
    by_cases q1 : dt (b.1 - a.1, b.2 - a.2) a ≤ dt (b.1 - a.1, b.2 - a.2) g ∧ dt (b.1 - a.1, b.2 - a.2) g ≤ dt (b.1 - a.1, b.2 - a.2) b
    · exact Or.inl (on_line hab ha hb hg q1.1 q1.2)
    by_cases q2 : dt (b.1 - a.1, b.2 - a.2) a ≤ dt (b.1 - a.1, b.2 - a.2) h ∧ dt (b.1 - a.1, b.2 - a.2) h ≤ dt (b.1 - a.1, b.2 - a.2) b
    · exact Or.inr (Or.inl (on_line hab ha hb hh q2.1 q2.2))
    by_cases q3 : dt (b.1 - a.1, b.2 - a.2) g ≤ dt (b.1 - a.1, b.2 - a.2) a ∧ dt (b.1 - a.1, b.2 - a.2) a ≤ dt (b.1 - a.1, b.2 - a.2) h
    · exact Or.inr (Or.inr (Or.inl (on_line hab hg hh ha q3.1 q3.2)))
    by_cases q4 : dt (b.1 - a.1, b.2 - a.2) h ≤ dt (b.1 - a.1, b.2 - a.2) a ∧ dt (b.1 - a.1, b.2 - a.2) a ≤ dt (b.1 - a.1, b.2 - a.2) g
    · have := on_line hab hh hg ha q4.1 q4.2
      refine Or.inr (Or.inr (Or.inl ⟨by rw [crs_sw, this.1]; rfl, ?_, ?_⟩))
      · have := this.2.1; unfold bt at *; omega
      · have := this.2.2; unfold bt at *; omega
    · exfalso
      generalize dt (b.1 - a.1, b.2 - a.2) a = A at *
      generalize dt (b.1 - a.1, b.2 - a.2) b = B at *
      generalize dt (b.1 - a.1, b.2 - a.2) g = G at *
      generalize dt (b.1 - a.1, b.2 - a.2) h = H at *
      -- both lie below A or both above B
      have hq : (G < A ∧ H < A) ∨ (B < G ∧ B < H) := by omega
      rcases hq with ⟨k1, k2⟩ | ⟨k1, k2⟩
      · exact low_no P (by omega) (by omega) (by omega) (by omega) hd k1 k2
      · exact hi_no P (by omega) (by omega) (by omega) (by omega) hd k1 k2
  by_cases hab : a = b
  · subst hab
    have f1 : x' * g.1 + y' * h.1 = (x' + y') * a.1 := Int.eq_of_mul_eq_mul_left (a := x + y) (by omega) (by rw [← E1, ← Int.add_mul]; exact Int.mul_left_comm _ _ _)
    have f2 : x' * g.2 + y' * h.2 = (x' + y') * a.2 := Int.eq_of_mul_eq_mul_left (a := x + y) (by omega) (by rw [← E2, ← Int.add_mul]; exact Int.mul_left_comm _ _ _)
    have f3 : (x + y) * crs g h a = 0 := by rw [Int.add_mul]; exact Z0
    exact Or.inr (Or.inr (Or.inl ⟨(Int.mul_eq_zero.mp f3).resolve_left (by omega), btw hx' hy' hp' f1, btw hx' hy' hp' f2⟩))
  · rcases sg_opp (show 0 < x' by omega) (show 0 < y' by omega) U0 with ⟨u0, v0⟩ | u1
    · exact lineAB hab u0 v0
    · rcases sg_opp (show 0 < x by omega) (show 0 < y by omega) Z0 with ⟨w0, z0⟩ | z1
      · -- a and b lie on the line of g and h, then so do all
        exfalso
        have e : crs a b g * crs a b h = crs a b g * (crs a b g - (crs g h b - crs g h a)) := by
          rw [← crs_d4]
        rw [w0, z0] at e
        have sq : 0 ≤ crs a b g * crs a b g := by
          by_cases z : 0 ≤ crs a b g
          · exact Int.mul_nonneg z z
          · have := Int.mul_nonneg (show 0 ≤ -crs a b g by omega) (show 0 ≤ -crs a b g by omega)
            rw [Int.neg_mul_neg] at this; exact this
        rw [Int.sub_zero, Int.sub_zero] at e
        omega
      · exact Or.inr (Or.inr (Or.inr (Or.inr ⟨u1, z1⟩)))
