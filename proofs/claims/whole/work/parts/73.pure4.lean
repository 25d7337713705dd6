/-! pure: times in order; between two neighbours nothing changes -/
def rN (c sp : Int) : Int := if sp < 0 then -c else c
def rD (sp : Int) : Int := if sp < 0 then -sp else sp
theorem rD_neg (sp : Int) : rD (-sp) = rD sp := by unfold rD; split <;> split <;> omega
theorem rN_neg {c sp : Int} (h : 0 < rD sp) : rN (-c) (-sp) = rN c sp := by unfold rD at h; unfold rN; split <;> split <;> (try split at h) <;> omega
/-- a line above 0 at one time and not at another: its root is between -/
theorem cr_o {c sp p q p' q' : Int} (hq : 0 < q) (hq' : 0 < q') (h0 : 0 ≤ p) (h1 : p ≤ q) (h0' : 0 ≤ p') (h1' : p' ≤ q') (hf : c * q < sp * p) (hg : sp * p' ≤ c * q') :
    0 < rD sp ∧ 0 ≤ rN c sp ∧ rN c sp ≤ rD sp ∧ ((rN c sp * q < p * rD sp ∧ p' * rD sp ≤ rN c sp * q') ∨ (p * rD sp < rN c sp * q ∧ rN c sp * q' ≤ p' * rD sp)) := by
  unfold rN rD
  by_cases hs : sp < 0
  · rw [if_pos hs, if_pos hs]
    have e1 : p * -sp = -(sp * p) := by grind
    have e2 : p' * -sp = -(sp * p') := by grind
    have e3 : -c * q = -(c * q) := by grind
    have e4 : -c * q' = -(c * q') := by grind
    have k1 : 0 ≤ p * -sp := Int.mul_nonneg h0 (by omega)
    have k2 : p' * -sp ≤ q' * -sp := Int.mul_le_mul_of_nonneg_right h1' (by omega)
    refine ⟨by omega, ?_, ?_, Or.inr ⟨by omega, by omega⟩⟩
    · exact Int.le_of_lt (pos_of_mul hq (by omega))
    · have e5 : q' * -sp = -sp * q' := Int.mul_comm _ _
      exact Int.le_of_mul_le_mul_right (a := q') (by omega) hq'
  · rw [if_neg hs, if_neg hs]
    have e1 : p * sp = sp * p := Int.mul_comm _ _
    have e2 : p' * sp = sp * p' := Int.mul_comm _ _
    have k1 : 0 ≤ p' * sp := Int.mul_nonneg h0' (by omega)
    have k2 : p * sp ≤ q * sp := Int.mul_le_mul_of_nonneg_right h1 (by omega)
    have e5 : q * sp = sp * q := Int.mul_comm _ _
    have hc : 0 ≤ c := by
      rcases Int.lt_or_le c 0 with z | z
      · have := (mul_lt0 (a := c) hq').mpr z; omega
      · exact z
    have hlt : 0 < (sp - c) * q := by
      have e : (sp - c) * q = sp * q - c * q := by grind
      omega
    have := pos_of_mul hq hlt
    exact ⟨by omega, hc, by omega, Or.inl ⟨by omega, by omega⟩⟩
theorem cr_c {c sp p q p' q' : Int} (hq : 0 < q) (hq' : 0 < q') (h0 : 0 ≤ p) (h1 : p ≤ q) (h0' : 0 ≤ p') (h1' : p' ≤ q') (hf : c * q ≤ sp * p) (hg : sp * p' < c * q') :
    0 < rD sp ∧ 0 ≤ rN c sp ∧ rN c sp ≤ rD sp ∧ ((rN c sp * q ≤ p * rD sp ∧ p' * rD sp < rN c sp * q') ∨ (p * rD sp ≤ rN c sp * q ∧ rN c sp * q' < p' * rD sp)) := by
  unfold rN rD
  by_cases hs : sp < 0
  · rw [if_pos hs, if_pos hs]
    have e1 : p * -sp = -(sp * p) := by grind
    have e2 : p' * -sp = -(sp * p') := by grind
    have e3 : -c * q = -(c * q) := by grind
    have e4 : -c * q' = -(c * q') := by grind
    have k1 : 0 ≤ p * -sp := Int.mul_nonneg h0 (by omega)
    have k2 : p' * -sp ≤ q' * -sp := Int.mul_le_mul_of_nonneg_right h1' (by omega)
    refine ⟨by omega, ?_, ?_, Or.inr ⟨by omega, by omega⟩⟩
    · rcases Int.lt_or_le (-c) 0 with z | z
      · have := (mul_lt0 (a := -c) hq).mpr z; omega
      · exact z
    · have e5 : q' * -sp = -sp * q' := Int.mul_comm _ _
      exact Int.le_of_mul_le_mul_right (a := q') (by omega) hq'
  · rw [if_neg hs, if_neg hs]
    have e1 : p * sp = sp * p := Int.mul_comm _ _
    have e2 : p' * sp = sp * p' := Int.mul_comm _ _
    have k1 : 0 ≤ p' * sp := Int.mul_nonneg h0' (by omega)
    have k2 : p * sp ≤ q * sp := Int.mul_le_mul_of_nonneg_right h1 (by omega)
    have e5 : q * sp = sp * q := Int.mul_comm _ _
    have hc : 0 < c := pos_of_mul hq' (by omega)
    have hle : c ≤ sp := Int.le_of_mul_le_mul_right (a := q) (by omega) hq
    exact ⟨by omega, by omega, hle, Or.inl ⟨by omega, by omega⟩⟩
section Times
variable {U L : Nat → Int} {n : Nat}
/-- times in order, from 0 to 1, both among them -/
def TL (U L : Nat → Int) (n : Nat) : Prop := (∀ j, j < n → 0 ≤ U j ∧ U j ≤ L j ∧ 0 < L j) ∧ (∀ i j, i ≤ j → j < n → U i * L j ≤ U j * L i) ∧ (∃ j, j < n ∧ U j = 0) ∧ (∃ j, j < n ∧ U j = L j)
/-- the root of a line is among the times, if it is a time -/
def Rt (U L : Nat → Int) (n : Nat) (c sp : Int) : Prop := 0 < rD sp → 0 ≤ rN c sp → rN c sp ≤ rD sp → ∃ j, j < n ∧ U j = rN c sp ∧ L j = rD sp
theorem fr_lt_of {a b x d e f : Int} (hb : 0 < b) (hd : 0 < d) (hf : 0 < f) (h1 : a * d < x * b) (h2 : x * f < e * d) : a * f < e * b := fr_lt_le hb hd hf h1 (Int.le_of_lt h2)
/-- a root strictly between two neighbours is none -/
theorem no_root {c sp : Int} (hT : TL U L n) (hr : Rt U L n c sp) {j : Nat} (hj : j + 1 < n) (k1 : 0 < rD sp) (k2 : 0 ≤ rN c sp) (k3 : rN c sp ≤ rD sp) (h1 : U j * rD sp < rN c sp * L j) (h2 : rN c sp * L (j + 1) < U (j + 1) * rD sp) : False := by
  obtain ⟨i, hi, e1, e2⟩ := hr k1 k2 k3
  obtain ⟨_, hs, _, _⟩ := hT
  rw [← e1, ← e2] at h1 h2
  rcases Nat.lt_or_ge j i with z | z
  · have := hs (j + 1) i z hi
    omega
  · have := hs i j z (by omega)
    omega
/-- from a time in a gap to a time strictly inside: what was above stays above -/
theorem gap_o {c sp p q p' q' : Int} (hT : TL U L n) (hr : Rt U L n c sp) {j : Nat} (hj : j + 1 < n) (hq : 0 < q) (hq' : 0 < q') (h0 : 0 ≤ p) (h1 : p ≤ q) (h0' : 0 ≤ p') (h1' : p' ≤ q')
    (a1 : U j * q ≤ p * L j) (a2 : p * L (j + 1) ≤ U (j + 1) * q) (b1 : U j * q' < p' * L j) (b2 : p' * L (j + 1) < U (j + 1) * q') (hf : c * q < sp * p) : c * q' < sp * p' := by
  rcases Int.lt_or_le (c * q') (sp * p') with z | z
  · exact z
  · exfalso
    have lj := (hT.1 j (by omega)).2.2
    have lj1 := (hT.1 (j + 1) hj).2.2
    obtain ⟨k1, k2, k3, k4 | k4⟩ := cr_o hq hq' h0 h1 h0' h1' hf z
    · exact no_root hT hr hj k1 k2 k3 (fr_lt_le lj hq' k1 b1 k4.2) (fr_lt_le k1 hq lj1 k4.1 a2)
    · exact no_root hT hr hj k1 k2 k3 (fr_le_lt lj hq k1 a1 k4.1) (fr_le_lt k1 hq' lj1 k4.2 b2)
/-- from a time strictly inside a gap to a time of the gap, ends too -/
theorem gap_c {c sp p q p' q' : Int} (hT : TL U L n) (hr : Rt U L n c sp) {j : Nat} (hj : j + 1 < n) (hq : 0 < q) (hq' : 0 < q') (h0 : 0 ≤ p) (h1 : p ≤ q) (h0' : 0 ≤ p') (h1' : p' ≤ q')
    (a1 : U j * q < p * L j) (a2 : p * L (j + 1) < U (j + 1) * q) (b1 : U j * q' ≤ p' * L j) (b2 : p' * L (j + 1) ≤ U (j + 1) * q') (hf : c * q ≤ sp * p) : c * q' ≤ sp * p' := by
  rcases Int.lt_or_le (sp * p') (c * q') with z | z
  · exfalso
    have lj := (hT.1 j (by omega)).2.2
    have lj1 := (hT.1 (j + 1) hj).2.2
    obtain ⟨k1, k2, k3, k4 | k4⟩ := cr_c hq hq' h0 h1 h0' h1' hf z
    · exact no_root hT hr hj k1 k2 k3 (fr_le_lt lj hq' k1 b1 k4.2) (fr_le_lt k1 hq lj1 k4.1 a2)
    · exact no_root hT hr hj k1 k2 k3 (fr_lt_le lj hq k1 a1 k4.1) (fr_lt_le k1 hq' lj1 k4.2 b2)
  · exact z
theorem Rt_neg {c sp : Int} (h : Rt U L n c sp) : Rt U L n (-c) (-sp) := by
  intro k1 k2 k3
  rw [rD_neg] at k1 k3 ⊢
  rw [rN_neg k1] at k2 k3 ⊢
  exact h k1 k2 k3
theorem gapO {lw hg sp p q p' q' : Int} (hT : TL U L n) (hr1 : Rt U L n lw sp) (hr2 : Rt U L n hg sp) {j : Nat} (hj : j + 1 < n) (hq : 0 < q) (hq' : 0 < q') (h0 : 0 ≤ p) (h1 : p ≤ q) (h0' : 0 ≤ p') (h1' : p' ≤ q')
    (a1 : U j * q ≤ p * L j) (a2 : p * L (j + 1) ≤ U (j + 1) * q) (b1 : U j * q' < p' * L j) (b2 : p' * L (j + 1) < U (j + 1) * q') (hf : AxO lw hg sp p q) : AxO lw hg sp p' q' := by
  refine ⟨gap_o hT hr1 hj hq hq' h0 h1 h0' h1' a1 a2 b1 b2 hf.1, ?_⟩
  have e3 : -hg * q = -(hg * q) := by grind
  have e4 : -sp * p = -(sp * p) := by grind
  have e5 : -hg * q < -sp * p := by have := hf.2; omega
  have := gap_o hT (Rt_neg hr2) hj hq hq' h0 h1 h0' h1' a1 a2 b1 b2 e5
  have e1 : -hg * q' = -(hg * q') := by grind
  have e2 : -sp * p' = -(sp * p') := by grind
  omega
theorem gapC {lw hg sp p q p' q' : Int} (hT : TL U L n) (hr1 : Rt U L n lw sp) (hr2 : Rt U L n hg sp) {j : Nat} (hj : j + 1 < n) (hq : 0 < q) (hq' : 0 < q') (h0 : 0 ≤ p) (h1 : p ≤ q) (h0' : 0 ≤ p') (h1' : p' ≤ q')
    (a1 : U j * q < p * L j) (a2 : p * L (j + 1) < U (j + 1) * q) (b1 : U j * q' ≤ p' * L j) (b2 : p' * L (j + 1) ≤ U (j + 1) * q') (hf : AxC lw hg sp p q) : AxC lw hg sp p' q' := by
  refine ⟨gap_c hT hr1 hj hq hq' h0 h1 h0' h1' a1 a2 b1 b2 hf.1, ?_⟩
  have e3 : -hg * q = -(hg * q) := by grind
  have e4 : -sp * p = -(sp * p) := by grind
  have e5 : -hg * q ≤ -sp * p := by have := hf.2; omega
  have := gap_c hT (Rt_neg hr2) hj hq hq' h0 h1 h0' h1' a1 a2 b1 b2 e5
  have e1 : -hg * q' = -(hg * q') := by grind
  have e2 : -sp * p' = -(sp * p') := by grind
  omega
/-- a gap that holds a time, its lower end too -/
theorem find_lo {p q : Int} {i0 : Nat} (h0 : U i0 * q ≤ p * L i0) : ∀ i1, i0 ≤ i1 → p * L i1 < U i1 * q → ∃ j, i0 ≤ j ∧ j < i1 ∧ U j * q ≤ p * L j ∧ p * L (j + 1) < U (j + 1) * q := by
  intro i1
  induction i1 with
  | zero => intro h h2; have : i0 = 0 := by omega
            subst this; omega
  | succ i ih =>
    intro h h2
    rcases Int.lt_or_le (p * L i) (U i * q) with z | z
    · rcases Nat.lt_or_ge i i0 with y | y
      · have : i0 = i + 1 := by omega
        subst this; omega
      · obtain ⟨j, a, b, d, e⟩ := ih y z
        exact ⟨j, a, by omega, d, e⟩
    · rcases Nat.lt_or_ge i i0 with y | y
      · have : i0 = i + 1 := by omega
        subst this; omega
      · exact ⟨i, y, by omega, z, h2⟩
/-- a gap that holds a time, its upper end too -/
theorem find_hi {p q : Int} {i0 : Nat} (h0 : U i0 * q < p * L i0) : ∀ i1, i0 ≤ i1 → p * L i1 ≤ U i1 * q → ∃ j, i0 ≤ j ∧ j < i1 ∧ U j * q < p * L j ∧ p * L (j + 1) ≤ U (j + 1) * q := by
  intro i1
  induction i1 with
  | zero => intro h h2; have : i0 = 0 := by omega
            subst this; omega
  | succ i ih =>
    intro h h2
    rcases Int.lt_or_le (U i * q) (p * L i) with z | z
    · rcases Nat.lt_or_ge i i0 with y | y
      · have : i0 = i + 1 := by omega
        subst this; omega
      · exact ⟨i, y, by omega, z, h2⟩
    · rcases Nat.lt_or_ge i i0 with y | y
      · have : i0 = i + 1 := by omega
        subst this; omega
      · obtain ⟨j, a, b, d, e⟩ := ih y z
        exact ⟨j, a, by omega, d, e⟩
/-- which times hit: at the time itself, or between it and the next -/
def Hit (St : Int → Int → Prop) (U L : Nat → Int) (n k : Nat) : Prop := St (U k) (L k) ∨ (k + 1 < n ∧ ¬ U k * L (k + 1) = U (k + 1) * L k ∧ St (U k * L (k + 1) + U (k + 1) * L k) (2 * L k * L (k + 1)))
theorem le_one {i j : Nat} (hT : TL U L n) (hi : i < n) (hj : j < n) (h : U i * L j < U j * L i) : i ≤ j := by
  rcases Nat.lt_or_ge j i with z | z
  · have := hT.2.1 j i (by omega) hi
    omega
  · exact z
theorem mid_in {j : Nat} (hT : TL U L n) (hj : j + 1 < n) (h : U j * L (j + 1) < U (j + 1) * L j) : 0 < 2 * L j * L (j + 1) ∧ 0 < U j * L (j + 1) + U (j + 1) * L j ∧ U j * L (j + 1) + U (j + 1) * L j < 2 * L j * L (j + 1) ∧ U j * (2 * L j * L (j + 1)) < (U j * L (j + 1) + U (j + 1) * L j) * L j ∧ (U j * L (j + 1) + U (j + 1) * L j) * L (j + 1) < U (j + 1) * (2 * L j * L (j + 1)) := by
  obtain ⟨a1, a2, a3⟩ := hT.1 j (by omega)
  obtain ⟨b1, b2, b3⟩ := hT.1 (j + 1) hj
  obtain ⟨m1, m2, m3⟩ := fr_mid a3 b3 h
  have k1 : 0 ≤ U j * L (j + 1) := Int.mul_nonneg a1 (Int.le_of_lt b3)
  have k2 : U (j + 1) * L j ≤ L (j + 1) * L j := Int.mul_le_mul_of_nonneg_right b2 (Int.le_of_lt a3)
  have e : 2 * L j * L (j + 1) = 2 * (L (j + 1) * L j) := by grind
  exact ⟨m1, by omega, by omega, m2, m3⟩
/-- a gap that holds a time of open meeting hits -/
theorem hit_gap {St : Int → Int → Prop} (hT : TL U L n) (hG : ∀ (j : Nat) (p q p' q' : Int), j + 1 < n → 0 < q → 0 < q' → 0 ≤ p → p ≤ q → 0 ≤ p' → p' ≤ q' → U j * q ≤ p * L j → p * L (j + 1) ≤ U (j + 1) * q → U j * q' < p' * L j → p' * L (j + 1) < U (j + 1) * q' → St p q → St p' q')
    {j : Nat} {p q : Int} (hj : j + 1 < n) (hlt : U j * L (j + 1) < U (j + 1) * L j) (hq : 0 < q) (h0 : 0 ≤ p) (h1 : p ≤ q) (a1 : U j * q ≤ p * L j) (a2 : p * L (j + 1) ≤ U (j + 1) * q) (hs : St p q) : Hit St U L n j := by
  obtain ⟨m1, m2, m3, m4, m5⟩ := mid_in hT hj hlt
  exact Or.inr ⟨hj, by omega, hG j p q _ _ hj hq m1 h0 h1 (by omega) (by omega) a1 a2 m4 m5 hs⟩
theorem inf_o {St : Int → Int → Prop} (hT : TL U L n) (hG : ∀ (j : Nat) (p q p' q' : Int), j + 1 < n → 0 < q → 0 < q' → 0 ≤ p → p ≤ q → 0 ≤ p' → p' ≤ q' → U j * q ≤ p * L j → p * L (j + 1) ≤ U (j + 1) * q → U j * q' < p' * L j → p' * L (j + 1) < U (j + 1) * q' → St p q → St p' q')
    {k : Nat} (hk : k < n) (hh : Hit St U L n k) (hmin : ∀ j, j < k → ¬ Hit St U L n j) : isInf (fun p q => 0 < p ∧ p < q ∧ St p q) (U k) (L k) := by
  obtain ⟨k1, k2, k3⟩ := hT.1 k hk
  obtain ⟨z0, hz0, ez0⟩ := hT.2.2.1
  obtain ⟨z1, hz1, ez1⟩ := hT.2.2.2
  have l0 := (hT.1 z0 hz0).2.2
  have l1 := (hT.1 z1 hz1).2.2
  refine ⟨k3, ?_, ?_⟩
  · rintro p q hq ⟨hp, hpq, hs⟩
    rcases Int.lt_or_le (p * L k) (U k * q) with z | z
    · exfalso
      have a0 : U z0 * q ≤ p * L z0 := by
        rw [ez0]; have := Int.mul_nonneg (Int.le_of_lt hp) (Int.le_of_lt l0); omega
      have hle : z0 ≤ k := le_one hT hz0 hk (fr_le_lt l0 hq k3 a0 z)
      obtain ⟨j, b1, b2, b3, b4⟩ := find_lo a0 k hle z
      have lj := (hT.1 j (by omega)).2.2
      have lj1 := (hT.1 (j + 1) (by omega)).2.2
      exact hmin j b2 (hit_gap hT hG (by omega) (fr_le_lt lj hq lj1 b3 b4) hq (Int.le_of_lt hp) (Int.le_of_lt hpq) b3 (Int.le_of_lt b4) hs)
    · exact z
  · intro p q hq hlt
    have found : ∃ (j : Nat) (a b : Int), j + 1 < n ∧ U j * L k ≤ U k * L j ∧ U k * L (j + 1) < U (j + 1) * L k ∧ 0 < b ∧ 0 ≤ a ∧ a ≤ b ∧ U j * b ≤ a * L j ∧ a * L (j + 1) ≤ U (j + 1) * b ∧ St a b := by
      rcases hh with hs | ⟨hk1, hne, hs⟩
      · rcases Int.lt_or_le (U k) (L k) with z | z
        · have a1 : U k * L z1 < U z1 * L k := by
            rw [ez1, Int.mul_comm (L z1) (L k)]; exact Int.mul_lt_mul_of_pos_right z l1
          have hle : k ≤ z1 := le_one hT hk hz1 a1
          obtain ⟨j, b1, b2, b3, b4⟩ := find_lo (U := U) (L := L) (i0 := k) (Int.le_refl _) z1 hle a1
          exact ⟨j, U k, L k, by omega, b3, b4, k3, k1, k2, b3, Int.le_of_lt b4, hs⟩
        · exfalso
          have ek : U k = L k := by omega
          have a0 : U z0 * L k < U k * L z0 := by
            rw [ez0, Int.zero_mul, ek]; exact Int.mul_pos k3 l0
          have hle : z0 ≤ k := le_one hT hz0 hk a0
          obtain ⟨j, b1, b2, b3, b4⟩ := find_hi (p := U k) (q := L k) a0 k hle (Int.le_refl _)
          have lj := (hT.1 j (by omega)).2.2
          have lj1 := (hT.1 (j + 1) (by omega)).2.2
          exact hmin j b2 (hit_gap hT hG (by omega) (fr_lt_le lj k3 lj1 b3 b4) k3 k1 k2 (Int.le_of_lt b3) b4 hs)
      · have hlt' : U k * L (k + 1) < U (k + 1) * L k := by
          have := hT.2.1 k (k + 1) (by omega) hk1
          omega
        obtain ⟨m1, m2, m3, m4, m5⟩ := mid_in hT hk1 hlt'
        exact ⟨k, _, _, hk1, Int.le_refl _, hlt', m1, Int.le_of_lt m2, Int.le_of_lt m3, Int.le_of_lt m4, Int.le_of_lt m5, hs⟩
    obtain ⟨j, a, b, hj, c1, c2, hb, ha0, hab, d1, d2, hs⟩ := found
    have lj := (hT.1 j (by omega)).2.2
    obtain ⟨u1, u2, lj1⟩ := hT.1 (j + 1) hj
    have go : ∀ p' q' : Int, 0 < q' → U k * q' < p' * L k → p' * L (j + 1) ≤ U (j + 1) * q' → p' * q ≤ p * q' → ∃ a b : Int, 0 < b ∧ (0 < a ∧ a < b ∧ St a b) ∧ a * q < p * b := by
      intro p' q' hq' g1 g2 g3
      obtain ⟨m1, m2, m3⟩ := fr_mid k3 hq' g1
      have m4 := fr_lt_le m1 hq' lj1 m3 g2
      have m5 := fr_le_lt lj k3 m1 c1 m2
      have p0 : 0 < U k * q' + p' * L k := by
        have := Int.mul_nonneg k1 (Int.le_of_lt m1)
        exact pos_of_mul k3 (by omega)
      have p1 : U k * q' + p' * L k < 2 * L k * q' := by
        have : U (j + 1) * (2 * L k * q') ≤ L (j + 1) * (2 * L k * q') := Int.mul_le_mul_of_nonneg_right u2 (Int.le_of_lt m1)
        have e : L (j + 1) * (2 * L k * q') = (2 * L k * q') * L (j + 1) := Int.mul_comm _ _
        exact Int.lt_of_mul_lt_mul_right (a := L (j + 1)) (by omega) (Int.le_of_lt lj1)
      exact ⟨_, _, m1, ⟨p0, p1, hG j a b _ _ hj hb m1 ha0 hab (Int.le_of_lt p0) (Int.le_of_lt p1) d1 d2 m5 m4 hs⟩, fr_lt_le m1 hq' hq m3 g3⟩
    rcases Int.lt_or_le (p * L (j + 1)) (U (j + 1) * q) with z | z
    · exact go p q hq hlt (Int.le_of_lt z) (Int.le_refl _)
    · exact go (U (j + 1)) (L (j + 1)) lj1 c2 (Int.le_refl _) z
theorem ex_o {St : Int → Int → Prop} (hT : TL U L n) (hG : ∀ (j : Nat) (p q p' q' : Int), j + 1 < n → 0 < q → 0 < q' → 0 ≤ p → p ≤ q → 0 ≤ p' → p' ≤ q' → U j * q ≤ p * L j → p * L (j + 1) ≤ U (j + 1) * q → U j * q' < p' * L j → p' * L (j + 1) < U (j + 1) * q' → St p q → St p' q')
    {p q : Int} (hq : 0 < q) (hp : 0 < p) (hpq : p < q) (hs : St p q) : ∃ j, j < n ∧ Hit St U L n j := by
  obtain ⟨z0, hz0, ez0⟩ := hT.2.2.1
  obtain ⟨z1, hz1, ez1⟩ := hT.2.2.2
  have l0 := (hT.1 z0 hz0).2.2
  have l1 := (hT.1 z1 hz1).2.2
  have a0 : U z0 * q ≤ p * L z0 := by
    rw [ez0]; have := Int.mul_nonneg (Int.le_of_lt hp) (Int.le_of_lt l0); omega
  have a1 : p * L z1 < U z1 * q := by
    rw [ez1, Int.mul_comm (L z1) q]; exact Int.mul_lt_mul_of_pos_right hpq l1
  have hle : z0 ≤ z1 := le_one hT hz0 hz1 (fr_le_lt l0 hq l1 a0 a1)
  obtain ⟨j, b1, b2, b3, b4⟩ := find_lo a0 z1 hle a1
  have lj := (hT.1 j (by omega)).2.2
  have lj1 := (hT.1 (j + 1) (by omega)).2.2
  exact ⟨j, by omega, hit_gap hT hG (by omega) (fr_le_lt lj hq lj1 b3 b4) hq (Int.le_of_lt hp) (Int.le_of_lt hpq) b3 (Int.le_of_lt b4) hs⟩
theorem inf_c {St : Int → Int → Prop} (hT : TL U L n) (hE : ∀ p q p' q' : Int, 0 < q → 0 < q' → p * q' = p' * q → St p q → St p' q')
    (hG : ∀ (j : Nat) (p q p' q' : Int), j + 1 < n → 0 < q → 0 < q' → 0 ≤ p → p ≤ q → 0 ≤ p' → p' ≤ q' → U j * q < p * L j → p * L (j + 1) < U (j + 1) * q → U j * q' ≤ p' * L j → p' * L (j + 1) ≤ U (j + 1) * q' → St p q → St p' q')
    {k : Nat} (hk : k < n) (hh : Hit St U L n k) (hmin : ∀ j, j < k → ¬ Hit St U L n j) : isInf (fun p q => 0 ≤ p ∧ p ≤ q ∧ St p q) (U k) (L k) := by
  obtain ⟨k1, k2, k3⟩ := hT.1 k hk
  obtain ⟨z0, hz0, ez0⟩ := hT.2.2.1
  have l0 := (hT.1 z0 hz0).2.2
  refine ⟨k3, ?_, ?_⟩
  · rintro p q hq ⟨hp, hpq, hs⟩
    rcases Int.lt_or_le (p * L k) (U k * q) with z | z
    · exfalso
      have a0 : U z0 * q ≤ p * L z0 := by
        rw [ez0]; have := Int.mul_nonneg hp (Int.le_of_lt l0); omega
      have hle : z0 ≤ k := le_one hT hz0 hk (fr_le_lt l0 hq k3 a0 z)
      obtain ⟨j, b1, b2, b3, b4⟩ := find_lo a0 k hle z
      have lj := (hT.1 j (by omega)).2.2
      have lj1 := (hT.1 (j + 1) (by omega)).2.2
      refine hmin j b2 ?_
      rcases Int.lt_or_le (U j * q) (p * L j) with y | y
      · obtain ⟨m1, m2, m3, m4, m5⟩ := mid_in hT (by omega) (fr_le_lt lj hq lj1 b3 b4)
        exact Or.inr ⟨by omega, by have := fr_le_lt lj hq lj1 b3 b4; omega, hG j p q _ _ (by omega) hq m1 hp hpq (Int.le_of_lt m2) (Int.le_of_lt m3) y b4 (Int.le_of_lt m4) (Int.le_of_lt m5) hs⟩
      · exact Or.inl (hE p q _ _ hq lj (by omega) hs)
    · exact z
  · intro p q hq hlt
    refine ⟨U k, L k, k3, ⟨k1, k2, ?_⟩, hlt⟩
    rcases hh with hs | ⟨hk1, hne, hs⟩
    · exact hs
    · have hlt' : U k * L (k + 1) < U (k + 1) * L k := by
        have := hT.2.1 k (k + 1) (by omega) hk1
        omega
      obtain ⟨m1, m2, m3, m4, m5⟩ := mid_in hT hk1 hlt'
      exact hG k _ _ _ _ hk1 m1 k3 (Int.le_of_lt m2) (Int.le_of_lt m3) k1 k2 m4 m5 (Int.le_refl _) (Int.le_of_lt hlt') hs
theorem ex_c {St : Int → Int → Prop} (hT : TL U L n) (hE : ∀ p q p' q' : Int, 0 < q → 0 < q' → p * q' = p' * q → St p q → St p' q')
    (hG : ∀ (j : Nat) (p q p' q' : Int), j + 1 < n → 0 < q → 0 < q' → 0 ≤ p → p ≤ q → 0 ≤ p' → p' ≤ q' → U j * q < p * L j → p * L (j + 1) < U (j + 1) * q → U j * q' ≤ p' * L j → p' * L (j + 1) ≤ U (j + 1) * q' → St p q → St p' q')
    {p q : Int} (hq : 0 < q) (hp : 0 ≤ p) (hpq : p ≤ q) (hs : St p q) : ∃ j, j < n ∧ Hit St U L n j := by
  obtain ⟨z0, hz0, ez0⟩ := hT.2.2.1
  obtain ⟨z1, hz1, ez1⟩ := hT.2.2.2
  have l0 := (hT.1 z0 hz0).2.2
  have l1 := (hT.1 z1 hz1).2.2
  rcases Int.lt_or_le p q with z | z
  · have a0 : U z0 * q ≤ p * L z0 := by
      rw [ez0]; have := Int.mul_nonneg hp (Int.le_of_lt l0); omega
    have a1 : p * L z1 < U z1 * q := by
      rw [ez1, Int.mul_comm (L z1) q]; exact Int.mul_lt_mul_of_pos_right z l1
    have hle : z0 ≤ z1 := le_one hT hz0 hz1 (fr_le_lt l0 hq l1 a0 a1)
    obtain ⟨j, b1, b2, b3, b4⟩ := find_lo a0 z1 hle a1
    have lj := (hT.1 j (by omega)).2.2
    have lj1 := (hT.1 (j + 1) (by omega)).2.2
    refine ⟨j, by omega, ?_⟩
    rcases Int.lt_or_le (U j * q) (p * L j) with y | y
    · obtain ⟨m1, m2, m3, m4, m5⟩ := mid_in hT (by omega) (fr_le_lt lj hq lj1 b3 b4)
      exact Or.inr ⟨by omega, by have := fr_le_lt lj hq lj1 b3 b4; omega, hG j p q _ _ (by omega) hq m1 hp hpq (Int.le_of_lt m2) (Int.le_of_lt m3) y b4 (Int.le_of_lt m4) (Int.le_of_lt m5) hs⟩
    · exact Or.inl (hE p q _ _ hq lj (by omega) hs)
  · have e : p = q := by omega
    exact ⟨z1, hz1, Or.inl (hE p q _ _ hq l1 (by rw [ez1, e, Int.mul_comm]) hs)⟩
end Times
/-- the least number with a property -/
theorem least {P : Nat → Prop} {k : Nat} (h : P k) : ∃ j, j ≤ k ∧ P j ∧ ∀ i, i < j → ¬ P i := by
  have key : ∀ n k, k ≤ n → P k → ∃ j, j ≤ k ∧ P j ∧ ∀ i, i < j → ¬ P i := by
    intro n
    induction n with
    | zero => intro k hk hp; exact ⟨k, Nat.le_refl _, hp, fun i hi => by omega⟩
    | succ n ih =>
      intro k hk hp
      rcases Classical.em (∃ i, i < k ∧ P i) with ⟨i, hi, hpi⟩ | hn
      · obtain ⟨j, a, b, d⟩ := ih i (by omega) hpi
        exact ⟨j, by omega, b, d⟩
      · exact ⟨k, Nat.le_refl _, hp, fun i hi hpi => hn ⟨i, hi, hpi⟩⟩
  exact key k k (Nat.le_refl _) h
