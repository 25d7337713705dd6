/-! corners are the points that lie in no shape of the others -/
theorem seg_ext {a b s : Pt} (hab : ¬ a = b) (h : SegH a b (em s)) (hs : ¬ s = a) : 1 ≤ (b.1 - a.1) * s.1 + (b.2 - a.2) * s.2 + (-((b.1 - a.1) * a.1) - (b.2 - a.2) * a.2) := by
  obtain ⟨h0, h1, h2⟩ := h
  rw [crh_em] at h0
  unfold bt em at h1 h2
  simp only [Int.one_mul] at h1 h2
  have e : (b.1 - a.1) * s.1 + (b.2 - a.2) * s.2 + (-((b.1 - a.1) * a.1) - (b.2 - a.2) * a.2) = (b.1 - a.1) * (s.1 - a.1) + (b.2 - a.2) * (s.2 - a.2) := by grind
  have sg : ∀ x y z : Int, (x ≤ z ∧ z ≤ y) ∨ (y ≤ z ∧ z ≤ x) → 0 ≤ (y - x) * (z - x) := by
    intro x y z h
    rcases h with h | h
    · exact Int.mul_nonneg (by omega) (by omega)
    · have := Int.mul_nonneg (show 0 ≤ x - y by omega) (show 0 ≤ x - z by omega)
      have e : (y - x) * (z - x) = (x - y) * (x - z) := by grind
      omega
  have p1 := sg _ _ _ h1
  have p2 := sg _ _ _ h2
  rw [e]
  by_cases z1 : (b.1 - a.1) * (s.1 - a.1) = 0
  · by_cases z2 : (b.2 - a.2) * (s.2 - a.2) = 0
    · exfalso
      unfold crs at h0
      apply hs
      rcases Int.mul_eq_zero.mp z1 with y1 | y1
      · have hx : s.1 = a.1 := by omega
        rcases Int.mul_eq_zero.mp z2 with y2 | y2
        · exact (hab (Prod.ext (by omega) (by omega))).elim
        · exact Prod.ext hx (by omega)
      · have hx : s.1 = a.1 := by omega
        by_cases q : b.1 - a.1 = 0
        · rcases Int.mul_eq_zero.mp z2 with y2 | y2
          · exact (hab (Prod.ext (by omega) (by omega))).elim
          · exact Prod.ext hx (by omega)
        · rw [y1, Int.mul_zero, Int.sub_zero] at h0
          rcases Int.mul_eq_zero.mp h0 with y2 | y2
          · exact (q y2).elim
          · exact Prod.ext hx (by omega)
    · omega
  · omega
theorem two_lines {a b d s : Pt} (h : 0 < crs a b d) (h1 : crs a b s = 0) (h2 : crs b d s = 0) : s = b := by
  have e1 : crs a b d * (s.1 - b.1) = crs a b s * (d.1 - b.1) + (b.1 - a.1) * -crs b d s := by unfold crs; grind
  have e2 : crs a b d * (s.2 - b.2) = crs a b s * (d.2 - b.2) + (b.2 - a.2) * -crs b d s := by unfold crs; grind
  rw [h1, h2, Int.neg_zero, Int.mul_zero, Int.zero_mul, Int.add_zero] at e1 e2
  have f1 := (Int.mul_eq_zero.mp e1).resolve_left (by omega)
  have f2 := (Int.mul_eq_zero.mp e2).resolve_left (by omega)
  exact Prod.ext (by omega) (by omega)
theorem Shp.ext {S O : Pt → Prop} {c : Nat → Pt} {n : Nat} (h : Shp S O c n) {k : Nat} (hk : k < n) : ¬ Cv (fun s => S s ∧ ¬ s = c k) (em (c k)) := by
  intro hc
  have hw := hc.wt (em_pos _)
  have key : ∀ p r t : Int, p * (c k).1 + r * (c k).2 + t = 0 → (∀ s, S s → ¬ s = c k → 1 ≤ p * s.1 + r * s.2 + t) → False := by
    intro p r t h0 hs
    have := hw.lin (em_pos _) p r (t - 1) (fun s hh => by have := hs s hh.1 hh.2; omega)
    unfold em at this
    simp only [Int.mul_one] at this
    omega
  by_cases h3 : 3 ≤ n
  · obtain ⟨j, hj, hjk⟩ : ∃ j, j < n ∧ pAfter n j = k := by
      by_cases e : k = 0
      · exact ⟨n - 1, by omega, by rw [after_ge (by omega), e]⟩
      · exact ⟨k - 1, by omega, by rw [after_lt (by omega)]; omega⟩
    have s1 := h.poly.str h3 j hj
    rw [hjk] at s1
    have lin : ∀ (a b s : Pt), crs a b s = (-(b.2 - a.2)) * s.1 + (b.1 - a.1) * s.2 + ((b.2 - a.2) * a.1 - (b.1 - a.1) * a.2) := by intro a b s; unfold crs; grind
    refine key ((-((c k).2 - (c j).2)) + (-((c (pAfter n k)).2 - (c k).2))) (((c k).1 - (c j).1) + ((c (pAfter n k)).1 - (c k).1)) ((((c k).2 - (c j).2) * (c j).1 - ((c k).1 - (c j).1) * (c j).2) + (((c (pAfter n k)).2 - (c k).2) * (c k).1 - ((c (pAfter n k)).1 - (c k).1) * (c k).2)) (by grind) ?_
    intro s hs hne
    have i1 := (h.inS hs).2 j hj
    have i2 := (h.inS hs).2 k hk
    rw [hjk, crh_em] at i1
    rw [crh_em] at i2
    have e : ((-((c k).2 - (c j).2)) + (-((c (pAfter n k)).2 - (c k).2))) * s.1 + (((c k).1 - (c j).1) + ((c (pAfter n k)).1 - (c k).1)) * s.2 + ((((c k).2 - (c j).2) * (c j).1 - ((c k).1 - (c j).1) * (c j).2) + (((c (pAfter n k)).2 - (c k).2) * (c k).1 - ((c (pAfter n k)).1 - (c k).1) * (c k).2)) = crs (c j) (c k) s + crs (c k) (c (pAfter n k)) s := by unfold crs; grind
    rw [e]
    by_cases z1 : crs (c j) (c k) s = 0
    · by_cases z2 : crs (c k) (c (pAfter n k)) s = 0
      · exact (hne (two_lines s1 z1 z2)).elim
      · omega
    · omega
  · have hp := h.poly.pos
    by_cases h1 : n = 1
    · subst h1
      refine key 0 0 0 (by omega) ?_
      intro s hs hne
      exfalso
      obtain ⟨⟨⟨k1, b1, r1⟩, ⟨k2, b2, r2⟩, ⟨k3, b3, r3⟩, ⟨k4, b4, r4⟩⟩, _⟩ := h.inS hs
      rw [show k1 = k by omega] at r1
      rw [show k2 = k by omega] at r2
      rw [show k3 = k by omega] at r3
      rw [show k4 = k by omega] at r4
      unfold em at r1 r2 r3 r4
      simp only [Int.one_mul] at r1 r2 r3 r4
      exact hne (Prod.ext (by omega) (by omega))
    · have h2 : n = 2 := by omega
      subst h2
      obtain ⟨j, hj, hjk⟩ : ∃ j, j < 2 ∧ ¬ c k = c j ∧ pAfter 2 k = j ∧ pAfter 2 j = k := by
        by_cases e : k = 0
        · subst e; exact ⟨1, by omega, h.poly.ne (by omega) (by omega), rfl, rfl⟩
        · rw [show k = 1 by omega]; exact ⟨0, by omega, fun z => h.poly.ne (i := 0) (j := 1) (by omega) (by omega) z.symm, rfl, rfl⟩
      have hkj : ∀ i, i < 2 → i = k ∨ i = j := by
        intro i hi
        by_cases e : i = k
        · exact Or.inl e
        · right
          have := hjk.1
          by_cases f : j = k
          · rw [f] at this; exact (this rfl).elim
          · omega
      refine key ((c j).1 - (c k).1) ((c j).2 - (c k).2) (-(((c j).1 - (c k).1) * (c k).1) - ((c j).2 - (c k).2) * (c k).2) (by omega) ?_
      intro s hs hne
      have hi := h.inS hs
      refine seg_ext hjk.1 ?_ hne
      obtain ⟨⟨⟨k1, b1, r1⟩, ⟨k2, b2, r2⟩, ⟨k3, b3, r3⟩, ⟨k4, b4, r4⟩⟩, he⟩ := hi
      have e0 := he k hk
      have e1 := he j hj
      rw [hjk.2.1] at e0
      rw [hjk.2.2, crh_sw] at e1
      have x1 : (em s).1 ≤ (em s).2.2 * (c k).1 ∨ (em s).1 ≤ (em s).2.2 * (c j).1 := by
        rcases hkj k1 b1 with z | z <;> rw [z] at r1
        · exact Or.inl r1
        · exact Or.inr r1
      have x2 : (em s).2.2 * (c k).1 ≤ (em s).1 ∨ (em s).2.2 * (c j).1 ≤ (em s).1 := by
        rcases hkj k2 b2 with z | z <;> rw [z] at r2
        · exact Or.inl r2
        · exact Or.inr r2
      have x3 : (em s).2.1 ≤ (em s).2.2 * (c k).2 ∨ (em s).2.1 ≤ (em s).2.2 * (c j).2 := by
        rcases hkj k3 b3 with z | z <;> rw [z] at r3
        · exact Or.inl r3
        · exact Or.inr r3
      have x4 : (em s).2.2 * (c k).2 ≤ (em s).2.1 ∨ (em s).2.2 * (c j).2 ≤ (em s).2.1 := by
        rcases hkj k4 b4 with z | z <;> rw [z] at r4
        · exact Or.inl r4
        · exact Or.inr r4
      refine ⟨by omega, ?_, ?_⟩ <;> unfold bt <;> omega
theorem Shp.ext_iff {S O : Pt → Prop} {c : Nat → Pt} {n : Nat} (h : Shp S O c n) {s : Pt} (hs : S s) : ¬ Cv (fun a => S a ∧ ¬ a = s) (em s) ↔ ∃ k, k < n ∧ s = c k := by
  constructor
  · intro hn
    by_cases e : ∃ k, k < n ∧ s = c k
    · exact e
    · exfalso
      apply hn
      refine (h.poly.cv (h.inS hs)).mono ?_
      rintro a ⟨k, hk, rfl⟩
      exact ⟨h.sub _ (h.poly.mem k hk), fun z => e ⟨k, hk, z.symm⟩⟩
  · rintro ⟨k, hk, rfl⟩
    exact h.ext hk
