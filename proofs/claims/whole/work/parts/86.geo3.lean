/-! what lies in a shape: places with a common lower part -/
abbrev Qt := Int × Int × Int
def em (a : Pt) : Qt := (a.1, a.2, 1)
def crh (a b : Pt) (q : Qt) : Int := (b.1 - a.1) * (q.2.1 - q.2.2 * a.2) - (b.2 - a.2) * (q.1 - q.2.2 * a.1)
theorem crh_em (a b d : Pt) : crh a b (em d) = crs a b d := by unfold crh crs em; simp only [Int.one_mul]
theorem crh_sw (a b : Pt) (q : Qt) : crh a b q = -crh b a q := by unfold crh; grind
def bt (a b v : Int) : Prop := (a ≤ v ∧ v ≤ b) ∨ (b ≤ v ∧ v ≤ a)
def SegH (a b : Pt) (q : Qt) : Prop := crh a b q = 0 ∧ bt (q.2.2 * a.1) (q.2.2 * b.1) q.1 ∧ bt (q.2.2 * a.2) (q.2.2 * b.2) q.2.1
def TriH (a b d : Pt) (q : Qt) : Prop := ¬ crs a b d = 0 ∧ ((0 ≤ crh a b q ∧ 0 ≤ crh b d q ∧ 0 ≤ crh d a q) ∨ (crh a b q ≤ 0 ∧ crh b d q ≤ 0 ∧ crh d a q ≤ 0))
def Cv (S : Pt → Prop) (q : Qt) : Prop := (∃ a b, S a ∧ S b ∧ SegH a b q) ∨ ∃ a b d, S a ∧ S b ∧ S d ∧ TriH a b d q
def Wq (a b d : Pt) (x y z : Int) (q : Qt) : Prop := 0 ≤ x ∧ 0 ≤ y ∧ 0 ≤ z ∧ 0 < x + y + z ∧ (x * a.1 + y * b.1 + z * d.1) * q.2.2 = (x + y + z) * q.1 ∧ (x * a.2 + y * b.2 + z * d.2) * q.2.2 = (x + y + z) * q.2.1
def Wt (S : Pt → Prop) (q : Qt) : Prop := ∃ a b d, S a ∧ S b ∧ S d ∧ ∃ x y z, Wq a b d x y z q
theorem Cv.mono {S T : Pt → Prop} {q : Qt} (h : Cv S q) (hs : ∀ a, S a → T a) : Cv T q := by
  rcases h with ⟨a, b, ha, hb, h⟩ | ⟨a, b, d, ha, hb, hd, h⟩
  · exact Or.inl ⟨a, b, hs a ha, hs b hb, h⟩
  · exact Or.inr ⟨a, b, d, hs a ha, hs b hb, hs d hd, h⟩
theorem tri_w {a b d : Pt} {q : Qt} (hm : 0 < q.2.2) (h : TriH a b d q) : ∃ x y z, Wq a b d x y z q := by
  obtain ⟨h0, h⟩ := h
  have s1 : crh a b q + crh b d q + crh d a q = q.2.2 * crs a b d := by unfold crh crs; grind
  have s2 : crh b d q * a.1 + crh d a q * b.1 + crh a b q * d.1 = crs a b d * q.1 := by unfold crh crs; grind
  have s3 : crh b d q * a.2 + crh d a q * b.2 + crh a b q * d.2 = crs a b d * q.2.1 := by unfold crh crs; grind
  have hne : ¬ q.2.2 * crs a b d = 0 := by
    intro z; rcases Int.mul_eq_zero.mp z with z | z
    · omega
    · exact h0 z
  rcases h with ⟨h1, h2, h3⟩ | ⟨h1, h2, h3⟩
  · refine ⟨crh b d q, crh d a q, crh a b q, h2, h3, h1, by omega, ?_, ?_⟩
    · rw [s2, show crh b d q + crh d a q + crh a b q = q.2.2 * crs a b d by omega]; grind
    · rw [s3, show crh b d q + crh d a q + crh a b q = q.2.2 * crs a b d by omega]; grind
  · refine ⟨-crh b d q, -crh d a q, -crh a b q, by omega, by omega, by omega, by omega, ?_, ?_⟩
    · rw [show -crh b d q * a.1 + -crh d a q * b.1 + -crh a b q * d.1 = -(crh b d q * a.1 + crh d a q * b.1 + crh a b q * d.1) by grind, s2, show -crh b d q + -crh d a q + -crh a b q = -(q.2.2 * crs a b d) by omega]; grind
    · rw [show -crh b d q * a.2 + -crh d a q * b.2 + -crh a b q * d.2 = -(crh b d q * a.2 + crh d a q * b.2 + crh a b q * d.2) by grind, s3, show -crh b d q + -crh d a q + -crh a b q = -(q.2.2 * crs a b d) by omega]; grind
theorem seg_w {a b : Pt} {q : Qt} (hm : 0 < q.2.2) (h : SegH a b q) : ∃ x y, Wq a b a x y 0 q := by
  obtain ⟨h0, h1, h2⟩ := h
  unfold crh at h0
  unfold bt at h1 h2
  by_cases c1 : a.1 = b.1
  · rw [c1] at h1 h0
    have hX : q.1 = q.2.2 * b.1 := by omega
    by_cases c2 : a.2 = b.2
    · rw [c2] at h2
      refine ⟨1, 0, by omega, by omega, by omega, by omega, ?_, ?_⟩
      · rw [c1, hX]; grind
      · have hY : q.2.1 = q.2.2 * b.2 := by omega
        rw [c2, hY]; grind
    · have hpos : ∀ k : Int, 0 < k → 0 < q.2.2 * k := fun k hk => Int.mul_pos hm hk
      rcases h2 with h2 | h2
      · have hlt : a.2 < b.2 := by
          by_cases z : a.2 < b.2
          · exact z
          · have := hpos (a.2 - b.2) (by omega); rw [Int.mul_sub] at this; omega
        have := hpos (b.2 - a.2) (by omega); rw [Int.mul_sub] at this
        refine ⟨q.2.2 * b.2 - q.2.1, q.2.1 - q.2.2 * a.2, by omega, by omega, by omega, by omega, ?_, ?_⟩
        · rw [c1, hX]; grind
        · grind
      · have hlt : b.2 < a.2 := by
          by_cases z : b.2 < a.2
          · exact z
          · have := hpos (b.2 - a.2) (by omega); rw [Int.mul_sub] at this; omega
        have := hpos (a.2 - b.2) (by omega); rw [Int.mul_sub] at this
        refine ⟨q.2.1 - q.2.2 * b.2, q.2.2 * a.2 - q.2.1, by omega, by omega, by omega, by omega, ?_, ?_⟩
        · rw [c1, hX]; grind
        · grind
  · have hpos : ∀ k : Int, 0 < k → 0 < q.2.2 * k := fun k hk => Int.mul_pos hm hk
    rcases h1 with h1 | h1
    · have hlt : a.1 < b.1 := by
        by_cases z : a.1 < b.1
        · exact z
        · have := hpos (a.1 - b.1) (by omega); rw [Int.mul_sub] at this; omega
      have := hpos (b.1 - a.1) (by omega); rw [Int.mul_sub] at this
      refine ⟨q.2.2 * b.1 - q.1, q.1 - q.2.2 * a.1, by omega, by omega, by omega, by omega, ?_, ?_⟩
      · grind
      · grind
    · have hlt : b.1 < a.1 := by
        by_cases z : b.1 < a.1
        · exact z
        · have := hpos (b.1 - a.1) (by omega); rw [Int.mul_sub] at this; omega
      have := hpos (a.1 - b.1) (by omega); rw [Int.mul_sub] at this
      refine ⟨q.1 - q.2.2 * b.1, q.2.2 * a.1 - q.1, by omega, by omega, by omega, by omega, ?_, ?_⟩
      · grind
      · grind
theorem Cv.wt {S : Pt → Prop} {q : Qt} (hm : 0 < q.2.2) (h : Cv S q) : Wt S q := by
  rcases h with ⟨a, b, ha, hb, h⟩ | ⟨a, b, d, ha, hb, hd, h⟩
  · obtain ⟨x, y, hw⟩ := seg_w hm h; exact ⟨a, b, a, ha, hb, ha, x, y, 0, hw⟩
  · obtain ⟨x, y, z, hw⟩ := tri_w hm h; exact ⟨a, b, d, ha, hb, hd, x, y, z, hw⟩
/-- what holds on one side of a line at the points holds at a place between them -/
theorem Wq.lin {a b d : Pt} {x y z : Int} {q : Qt} (hw : Wq a b d x y z q) (hm : 0 < q.2.2) (p r t : Int) (ha : 0 ≤ p * a.1 + r * a.2 + t) (hb : 0 ≤ p * b.1 + r * b.2 + t) (hd : 0 ≤ p * d.1 + r * d.2 + t) : 0 ≤ p * q.1 + r * q.2.1 + t * q.2.2 := by
  obtain ⟨h1, h2, h3, h4, h5, h6⟩ := hw
  have i1 := Int.mul_nonneg h1 ha
  have i2 := Int.mul_nonneg h2 hb
  have i3 := Int.mul_nonneg h3 hd
  have i4 := Int.mul_nonneg (show 0 ≤ q.2.2 by omega) (show 0 ≤ x * (p * a.1 + r * a.2 + t) + y * (p * b.1 + r * b.2 + t) + z * (p * d.1 + r * d.2 + t) by omega)
  have e : (x + y + z) * (p * q.1 + r * q.2.1 + t * q.2.2) = q.2.2 * (x * (p * a.1 + r * a.2 + t) + y * (p * b.1 + r * b.2 + t) + z * (p * d.1 + r * d.2 + t)) := by grind
  exact nn_of h4 (by rw [e]; exact i4)
theorem Wt.lin {S : Pt → Prop} {q : Qt} (h : Wt S q) (hm : 0 < q.2.2) (p r t : Int) (hs : ∀ s, S s → 0 ≤ p * s.1 + r * s.2 + t) : 0 ≤ p * q.1 + r * q.2.1 + t * q.2.2 := by
  obtain ⟨a, b, d, ha, hb, hd, x, y, z, hw⟩ := h
  exact hw.lin hm p r t (hs a ha) (hs b hb) (hs d hd)
theorem amax (f : Nat → Int) : ∀ n, 1 ≤ n → ∃ k, k < n ∧ ∀ j, j < n → f j ≤ f k
  | 0, h => by omega
  | 1, _ => ⟨0, by omega, fun j hj => by rw [show j = 0 by omega]; exact Int.le_refl _⟩
  | n + 2, _ => by
    obtain ⟨k, hk, h⟩ := amax f (n + 1) (by omega)
    by_cases c : f k ≤ f (n + 1)
    · refine ⟨n + 1, by omega, fun j hj => ?_⟩
      by_cases e : j = n + 1
      · rw [e]; exact Int.le_refl _
      · have := h j (by omega); omega
    · refine ⟨k, by omega, fun j hj => ?_⟩
      by_cases e : j = n + 1
      · rw [e]; omega
      · exact h j (by omega)
def In (c : Nat → Pt) (n : Nat) (q : Qt) : Prop := ((∃ k, k < n ∧ q.1 ≤ q.2.2 * (c k).1) ∧ (∃ k, k < n ∧ q.2.2 * (c k).1 ≤ q.1) ∧ (∃ k, k < n ∧ q.2.1 ≤ q.2.2 * (c k).2) ∧ (∃ k, k < n ∧ q.2.2 * (c k).2 ≤ q.2.1)) ∧ ∀ k, k < n → 0 ≤ crh (c k) (c (pAfter n k)) q
theorem In.lin {S : Pt → Prop} {c : Nat → Pt} {n : Nat} {q : Qt} (hn : 1 ≤ n) (hm : 0 < q.2.2) (h : Wt S q) (hs : ∀ s, S s → In c n (em s)) : In c n q := by
  refine ⟨⟨?_, ?_, ?_, ?_⟩, ?_⟩
  · obtain ⟨k, hk, hmx⟩ := amax (fun k => (c k).1) n hn
    refine ⟨k, hk, ?_⟩
    have := h.lin hm (-1) 0 (c k).1 (fun s ss => by
      obtain ⟨j, hj, e⟩ := (hs s ss).1.1
      have := hmx j hj
      simp only [em, Int.one_mul] at e this; omega)
    rw [Int.mul_comm q.2.2]; omega
  · obtain ⟨k, hk, hmx⟩ := amax (fun k => -(c k).1) n hn
    refine ⟨k, hk, ?_⟩
    have := h.lin hm 1 0 (-(c k).1) (fun s ss => by
      obtain ⟨j, hj, e⟩ := (hs s ss).1.2.1
      have := hmx j hj
      simp only [em, Int.one_mul] at e this; omega)
    rw [Int.mul_comm q.2.2]; rw [Int.neg_mul] at this; omega
  · obtain ⟨k, hk, hmx⟩ := amax (fun k => (c k).2) n hn
    refine ⟨k, hk, ?_⟩
    have := h.lin hm 0 (-1) (c k).2 (fun s ss => by
      obtain ⟨j, hj, e⟩ := (hs s ss).1.2.2.1
      have := hmx j hj
      simp only [em, Int.one_mul] at e this; omega)
    rw [Int.mul_comm q.2.2]; omega
  · obtain ⟨k, hk, hmx⟩ := amax (fun k => -(c k).2) n hn
    refine ⟨k, hk, ?_⟩
    have := h.lin hm 0 1 (-(c k).2) (fun s ss => by
      obtain ⟨j, hj, e⟩ := (hs s ss).1.2.2.2
      have := hmx j hj
      simp only [em, Int.one_mul] at e this; omega)
    rw [Int.mul_comm q.2.2]; rw [Int.neg_mul] at this; omega
  · intro k hk
    have hl : ∀ q : Qt, crh (c k) (c (pAfter n k)) q = (-((c (pAfter n k)).2 - (c k).2)) * q.1 + ((c (pAfter n k)).1 - (c k).1) * q.2.1 + (((c (pAfter n k)).2 - (c k).2) * (c k).1 - ((c (pAfter n k)).1 - (c k).1) * (c k).2) * q.2.2 := by intro q; unfold crh; grind
    rw [hl]
    exact h.lin hm _ _ _ (fun s ss => by
      have := (hs s ss).2 k hk
      rw [hl] at this
      simp only [em, Int.mul_one] at this
      exact this)
