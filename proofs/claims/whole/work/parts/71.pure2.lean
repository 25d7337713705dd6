/-! pure: fractions by their parts; the least time, by what it is -/
theorem fr_lt_le {a b x d e f : Int} (hb : 0 < b) (hd : 0 < d) (hf : 0 < f) (h1 : a * d < x * b) (h2 : x * f ≤ e * d) : a * f < e * b := by
  have g1 : a * d * f < x * b * f := Int.mul_lt_mul_of_pos_right h1 hf
  have g2 : x * f * b ≤ e * d * b := Int.mul_le_mul_of_nonneg_right h2 (Int.le_of_lt hb)
  have e1 : a * d * f = a * f * d := by rw [Int.mul_assoc, Int.mul_comm d f, ← Int.mul_assoc]
  have e2 : x * b * f = x * f * b := by rw [Int.mul_assoc, Int.mul_comm b f, ← Int.mul_assoc]
  have e3 : e * d * b = e * b * d := by rw [Int.mul_assoc, Int.mul_comm d b, ← Int.mul_assoc]
  rw [e1, e2] at g1
  rw [e3] at g2
  exact Int.lt_of_mul_lt_mul_right (Int.lt_of_lt_of_le g1 g2) (Int.le_of_lt hd)
theorem fr_le_lt {a b x d e f : Int} (hb : 0 < b) (hd : 0 < d) (hf : 0 < f) (h1 : a * d ≤ x * b) (h2 : x * f < e * d) : a * f < e * b := by
  have g1 : a * d * f ≤ x * b * f := Int.mul_le_mul_of_nonneg_right h1 (Int.le_of_lt hf)
  have g2 : x * f * b < e * d * b := Int.mul_lt_mul_of_pos_right h2 hb
  have e1 : a * d * f = a * f * d := by rw [Int.mul_assoc, Int.mul_comm d f, ← Int.mul_assoc]
  have e2 : x * b * f = x * f * b := by rw [Int.mul_assoc, Int.mul_comm b f, ← Int.mul_assoc]
  have e3 : e * d * b = e * b * d := by rw [Int.mul_assoc, Int.mul_comm d b, ← Int.mul_assoc]
  rw [e1, e2] at g1
  rw [e3] at g2
  exact Int.lt_of_mul_lt_mul_right (Int.lt_of_le_of_lt g1 g2) (Int.le_of_lt hd)
theorem fr_le_le {a b x d e f : Int} (hb : 0 < b) (hd : 0 < d) (hf : 0 < f) (h1 : a * d ≤ x * b) (h2 : x * f ≤ e * d) : a * f ≤ e * b := by
  have g1 : a * d * f ≤ x * b * f := Int.mul_le_mul_of_nonneg_right h1 (Int.le_of_lt hf)
  have g2 : x * f * b ≤ e * d * b := Int.mul_le_mul_of_nonneg_right h2 (Int.le_of_lt hb)
  have e1 : a * d * f = a * f * d := by rw [Int.mul_assoc, Int.mul_comm d f, ← Int.mul_assoc]
  have e2 : x * b * f = x * f * b := by rw [Int.mul_assoc, Int.mul_comm b f, ← Int.mul_assoc]
  have e3 : e * d * b = e * b * d := by rw [Int.mul_assoc, Int.mul_comm d b, ← Int.mul_assoc]
  rw [e1, e2] at g1
  rw [e3] at g2
  exact Int.le_of_mul_le_mul_right (Int.le_trans g1 g2) hd
/-- a time between two -/
theorem fr_mid {a b x d : Int} (hb : 0 < b) (hd : 0 < d) (h : a * d < x * b) : 0 < 2 * b * d ∧ a * (2 * b * d) < (a * d + x * b) * b ∧ (a * d + x * b) * d < x * (2 * b * d) := by
  refine ⟨Int.mul_pos (by omega) hd, ?_, ?_⟩
  · have : a * (2 * b * d) = (2 * (a * d)) * b := by rw [Int.mul_comm 2 b, Int.mul_assoc b 2 d, ← Int.mul_assoc a b (2 * d), Int.mul_comm a b, Int.mul_assoc b a (2 * d), Int.mul_left_comm a 2 d, Int.mul_comm b (2 * (a * d))]
    rw [this]
    exact Int.mul_lt_mul_of_pos_right (by omega) hb
  · have : x * (2 * b * d) = (2 * (x * b)) * d := by rw [← Int.mul_assoc x (2 * b) d, Int.mul_left_comm x 2 b]
    rw [this]
    exact Int.mul_lt_mul_of_pos_right (by omega) hd
/-- u / l is the greatest lower bound of the times with P (p / q, q above 0) -/
def isInf (P : Int → Int → Prop) (u l : Int) : Prop := 0 < l ∧ (∀ p q : Int, 0 < q → P p q → u * q ≤ p * l) ∧ (∀ p q : Int, 0 < q → u * q < p * l → ∃ a b : Int, 0 < b ∧ P a b ∧ a * q < p * b)
theorem isInf_uniq {P : Int → Int → Prop} {u l v k : Int} (h1 : isInf P u l) (h2 : isInf P v k) : u * k = v * l := by
  obtain ⟨a1, a2, a3⟩ := h1
  obtain ⟨b1, b2, b3⟩ := h2
  rcases Int.lt_trichotomy (u * k) (v * l) with h | h | h
  · obtain ⟨a, b, hb, hp, hl⟩ := a3 v k b1 h
    have := b2 a b hb hp
    omega
  · exact h
  · obtain ⟨a, b, hb, hp, hl⟩ := b3 u l a1 h
    have := a2 a b hb hp
    omega
/-- two fractions that are equal have the same lowest terms -/
theorem low_terms {a b x d : Nat} (hb : 0 < b) (hd : 0 < d) (h : a * d = x * b) : a / Nat.gcd a b = x / Nat.gcd x d ∧ b / Nat.gcd a b = d / Nat.gcd x d := by
  have g1 : 0 < Nat.gcd a b := Nat.gcd_pos_of_pos_right a hb
  have g2 : 0 < Nat.gcd x d := Nat.gcd_pos_of_pos_right x hd
  have e1 : a * Nat.gcd x d = x * Nat.gcd a b := by
    rw [← Nat.gcd_mul_left, ← Nat.gcd_mul_left, h, Nat.mul_comm a x]
  have e2 : b * Nat.gcd x d = d * Nat.gcd a b := by
    rw [← Nat.gcd_mul_left, ← Nat.gcd_mul_left, Nat.mul_comm b x, ← h, Nat.mul_comm d a, Nat.mul_comm b d]
  obtain ⟨a', ha⟩ := Nat.gcd_dvd_left a b
  obtain ⟨b', hb'⟩ := Nat.gcd_dvd_right a b
  obtain ⟨x', hx⟩ := Nat.gcd_dvd_left x d
  obtain ⟨d', hd'⟩ := Nat.gcd_dvd_right x d
  rw [Nat.div_eq_of_eq_mul_right g1 ha, Nat.div_eq_of_eq_mul_right g1 hb', Nat.div_eq_of_eq_mul_right g2 hx, Nat.div_eq_of_eq_mul_right g2 hd']
  generalize Nat.gcd a b = G at *
  generalize Nat.gcd x d = K at *
  subst ha hb' hx hd'
  have hp : 0 < G * K := Nat.mul_pos g1 g2
  refine ⟨Nat.eq_of_mul_eq_mul_left hp ?_, Nat.eq_of_mul_eq_mul_left hp ?_⟩
  · have : G * K * a' = G * a' * K := by grind
    rw [this, e1]; grind
  · have : G * K * b' = G * b' * K := by grind
    rw [this, e2]; grind
