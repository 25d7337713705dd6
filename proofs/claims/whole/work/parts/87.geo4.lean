/-! a polygon as a fan about its least corner -/
theorem fan_no {O A B D E : Pt} (hB : lx O B) (hD : lx O D) (h0 : crs O B D = 0) (s1 : 0 < crs A B D) (l1 : 0 ≤ crs A B O) (s2 : 0 < crs B D E) (l2 : 0 ≤ crs D E O) : False := by
  have hv := lx_lp hB
  have hw := lx_lp hD
  have e1 : crs A B D = ((A.1 - O.1) * (B.2 - O.2) - (A.2 - O.2) * (B.1 - O.1)) - ((A.1 - O.1) * (D.2 - O.2) - (A.2 - O.2) * (D.1 - O.1)) + crs O B D := by unfold crs; grind
  have e2 : crs A B O = (A.1 - O.1) * (B.2 - O.2) - (A.2 - O.2) * (B.1 - O.1) := by unfold crs; grind
  have e3 : crs B D E = ((D.1 - O.1) * (E.2 - O.2) - (D.2 - O.2) * (E.1 - O.1)) - ((B.1 - O.1) * (E.2 - O.2) - (B.2 - O.2) * (E.1 - O.1)) + crs O B D := by unfold crs; grind
  have e4 : crs D E O = (D.1 - O.1) * (E.2 - O.2) - (D.2 - O.2) * (E.1 - O.1) := by unfold crs; grind
  rw [e1] at s1
  rw [e2] at l1
  rw [e3] at s2
  rw [e4] at l2
  unfold crs at h0 s1 s2
  generalize B.1 - O.1 = v1 at *
  generalize B.2 - O.2 = v2 at *
  generalize D.1 - O.1 = w1 at *
  generalize D.2 - O.2 = w2 at *
  generalize A.1 - O.1 = z1 at *
  generalize A.2 - O.2 = z2 at *
  generalize E.1 - O.1 = y1 at *
  generalize E.2 - O.2 = y2 at *
  unfold lpv at hv hw
  rcases hv with hv | ⟨hv0, hv⟩
  · have hw1 : 0 < w1 := by
      rcases hw with hw | ⟨hw0, hw⟩
      · exact hw
      · subst hw0; have := Int.mul_pos hv hw; omega
    have q1 : (v1 - w1) * (z1 * v2 - z2 * v1) = v1 * ((z1 * v2 - z2 * v1) - (z1 * w2 - z2 * w1)) + z1 * (v1 * w2 - v2 * w1) := by grind
    have q2 : (w1 - v1) * (v1 * y2 - v2 * y1) = v1 * ((w1 * y2 - w2 * y1) - (v1 * y2 - v2 * y1)) + y1 * (v1 * w2 - v2 * w1) := by grind
    have q3 : w1 * (v1 * y2 - v2 * y1) = v1 * (w1 * y2 - w2 * y1) + y1 * (v1 * w2 - v2 * w1) := by grind
    rw [h0, Int.mul_zero] at q1 q2 q3
    have p1 := Int.mul_pos hv (show 0 < (z1 * v2 - z2 * v1) - (z1 * w2 - z2 * w1) by omega)
    have p2 := Int.mul_pos hv (show 0 < (w1 * y2 - w2 * y1) - (v1 * y2 - v2 * y1) by omega)
    have p3 := Int.mul_nonneg (show 0 ≤ v1 by omega) l2
    have y0 : 0 ≤ v1 * y2 - v2 * y1 := nn_of hw1 (by omega)
    by_cases g : w1 ≤ v1
    · have := Int.mul_nonneg (show 0 ≤ v1 - w1 by omega) y0
      have e : (w1 - v1) * (v1 * y2 - v2 * y1) = -((v1 - w1) * (v1 * y2 - v2 * y1)) := by grind
      omega
    · have := Int.mul_nonneg (show 0 ≤ w1 - v1 by omega) l1
      have e : (v1 - w1) * (z1 * v2 - z2 * v1) = -((w1 - v1) * (z1 * v2 - z2 * v1)) := by grind
      omega
  · subst hv0
    have hw1 : w1 = 0 := by
      rcases hw with hw | hw
      · have := Int.mul_pos hv hw; omega
      · exact hw.1
    subst hw1
    have hw2 : 0 < w2 := by omega
    have q1 : (v2 - w2) * z1 = (z1 * v2 - z2 * 0) - (z1 * w2 - z2 * 0) := by grind
    have q2 : (w2 - v2) * (-y1) = (0 * y2 - w2 * y1) - (0 * y2 - v2 * y1) := by grind
    have z0 : 0 ≤ z1 := nn_of hv (by have : v2 * z1 = z1 * v2 := Int.mul_comm _ _
                                     omega)
    have y0 : 0 ≤ -y1 := nn_of hw2 (by rw [Int.mul_neg]; omega)
    by_cases g : w2 ≤ v2
    · have := Int.mul_nonneg (show 0 ≤ v2 - w2 by omega) y0
      have e : (w2 - v2) * (-y1) = -((v2 - w2) * (-y1)) := by grind
      omega
    · have := Int.mul_nonneg (show 0 ≤ w2 - v2 by omega) z0
      have e : (v2 - w2) * z1 = -((w2 - v2) * z1) := by grind
      omega
variable {O : Pt → Prop} {c : Nat → Pt} {n : Nat}
theorem Poly.fan1 (h : Poly O c n) {i : Nat} (h1 : 1 ≤ i) (h2 : i + 1 < n) : 0 < crs (c 0) (c i) (c (i + 1)) := by
  have h3 : 3 ≤ n := by omega
  have a1 : pAfter n i = i + 1 := after_lt h2
  have a0 : pAfter n (i - 1) = i := by rw [after_lt (by omega)]; omega
  have l0 := h.lft i (c 0) (by omega) (h.mem 0 (by omega))
  have s2 := h.str h3 i (by omega)
  have s1 := h.str h3 (i - 1) (by omega)
  have l1 := h.lft (i - 1) (c 0) (by omega) (h.mem 0 (by omega))
  rw [a1] at l0 s2
  rw [a0, a1] at s1
  rw [a0] at l1
  rw [crs_cy]
  by_cases e : i + 2 < n
  · have a2 : pAfter n (i + 1) = i + 2 := after_lt e
    have l2 := h.lft (i + 1) (c 0) (by omega) (h.mem 0 (by omega))
    rw [a2] at l2 s2
    by_cases z : crs (c i) (c (i + 1)) (c 0) = 0
    · exact (fan_no (h.lst i h1 (by omega)) (h.lst (i + 1) (by omega) h2) (by rw [crs_cy]; exact z) s1 l1 s2 l2).elim
    · omega
  · rw [after_ge (show ¬ i + 1 + 1 < n by omega)] at s2; exact s2
theorem Poly.fan (h : Poly O c n) : ∀ d i, 1 ≤ i → i + 1 + d < n → 0 < crs (c 0) (c i) (c (i + 1 + d))
  | 0, i, h1, h2 => h.fan1 h1 h2
  | d + 1, i, h1, h2 => lp_ts (lx_lp (h.lst i h1 (by omega))) (lx_lp (h.lst (i + 1 + d) (by omega) (by omega))) (lx_lp (h.lst (i + 1 + d + 1) (by omega) h2)) (h.fan d i h1 (by omega)) (h.fan1 (i := i + 1 + d) (by omega) h2)
theorem Poly.fan' (h : Poly O c n) {i j : Nat} (h1 : 1 ≤ i) (h2 : i < j) (h3 : j < n) : 0 < crs (c 0) (c i) (c j) := by
  have := h.fan (j - i - 1) i h1 (by omega)
  rwa [show i + 1 + (j - i - 1) = j by omega] at this
theorem Poly.ne (h : Poly O c n) {i j : Nat} (h2 : i < j) (h3 : j < n) : ¬ c i = c j := by
  intro e
  by_cases h1 : 1 ≤ i
  · have := h.fan' h1 h2 h3
    rw [e, crs_bb] at this; omega
  · have := h.lst j (by omega) h3
    rw [← e, show i = 0 by omega] at this; exact lx_irr this
theorem ivt (f : Nat → Int) : ∀ d a, 0 ≤ f a → f (a + 1 + d) ≤ 0 → ∃ i, a ≤ i ∧ i < a + 1 + d ∧ 0 ≤ f i ∧ f (i + 1) ≤ 0
  | 0, a, h1, h2 => ⟨a, by omega, by omega, h1, h2⟩
  | d + 1, a, h1, h2 => by
    by_cases q : f (a + 1) ≤ 0
    · exact ⟨a, by omega, by omega, h1, q⟩
    · obtain ⟨i, g1, g2, g3⟩ := ivt f d (a + 1) (by omega) (by rw [show a + 1 + 1 + d = a + 1 + (d + 1) by omega]; exact h2)
      exact ⟨i, by omega, by omega, g3⟩
theorem Poly.in3 (h : Poly O c n) (h3 : 3 ≤ n) {q : Qt} (he : ∀ k, k < n → 0 ≤ crh (c k) (c (pAfter n k)) q) : Cv (fun s => ∃ k, k < n ∧ s = c k) q := by
  have e0 := he 0 (by omega)
  have e1 := he (n - 1) (by omega)
  rw [after_lt (show 0 + 1 < n by omega)] at e0
  rw [after_ge (show ¬ n - 1 + 1 < n by omega), crh_sw] at e1
  obtain ⟨i, g1, g2, g3, g4⟩ := ivt (fun i => crh (c 0) (c i) q) (n - 3) 1 e0 (by rw [show 1 + 1 + (n - 3) = n - 1 by omega]; omega)
  have e2 := he i (by omega)
  rw [after_lt (show i + 1 < n by omega)] at e2
  have f := h.fan1 g1 (show i + 1 < n by omega)
  refine Or.inr ⟨c 0, c i, c (i + 1), ⟨0, by omega, rfl⟩, ⟨i, by omega, rfl⟩, ⟨i + 1, by omega, rfl⟩, by omega, Or.inl ⟨g3, e2, ?_⟩⟩
  rw [crh_sw]; omega
theorem Poly.cv (h : Poly O c n) {q : Qt} (hi : In c n q) : Cv (fun s => ∃ k, k < n ∧ s = c k) q := by
  by_cases h3 : 3 ≤ n
  · exact h.in3 h3 hi.2
  · have hp := h.pos
    by_cases h1 : n = 1
    · subst h1
      obtain ⟨⟨⟨k1, b1, r1⟩, ⟨k2, b2, r2⟩, ⟨k3, b3, r3⟩, ⟨k4, b4, r4⟩⟩, _⟩ := hi
      rw [show k1 = 0 by omega] at r1
      rw [show k2 = 0 by omega] at r2
      rw [show k3 = 0 by omega] at r3
      rw [show k4 = 0 by omega] at r4
      exact Or.inl ⟨c 0, c 0, ⟨0, by omega, rfl⟩, ⟨0, by omega, rfl⟩, by unfold crh; grind, Or.inl ⟨r2, r1⟩, Or.inl ⟨r4, r3⟩⟩
    · have h2 : n = 2 := by omega
      subst h2
      obtain ⟨⟨⟨k1, b1, r1⟩, ⟨k2, b2, r2⟩, ⟨k3, b3, r3⟩, ⟨k4, b4, r4⟩⟩, he⟩ := hi
      have e0 := he 0 (by omega)
      have e1 := he 1 (by omega)
      rw [show pAfter 2 0 = 1 from rfl] at e0
      rw [show pAfter 2 1 = 0 from rfl, crh_sw] at e1
      have x1 : q.1 ≤ q.2.2 * (c 0).1 ∨ q.1 ≤ q.2.2 * (c 1).1 := by
        by_cases z : k1 = 0
        · subst z; exact Or.inl r1
        · rw [show k1 = 1 by omega] at r1; exact Or.inr r1
      have x2 : q.2.2 * (c 0).1 ≤ q.1 ∨ q.2.2 * (c 1).1 ≤ q.1 := by
        by_cases z : k2 = 0
        · subst z; exact Or.inl r2
        · rw [show k2 = 1 by omega] at r2; exact Or.inr r2
      have x3 : q.2.1 ≤ q.2.2 * (c 0).2 ∨ q.2.1 ≤ q.2.2 * (c 1).2 := by
        by_cases z : k3 = 0
        · subst z; exact Or.inl r3
        · rw [show k3 = 1 by omega] at r3; exact Or.inr r3
      have x4 : q.2.2 * (c 0).2 ≤ q.2.1 ∨ q.2.2 * (c 1).2 ≤ q.2.1 := by
        by_cases z : k4 = 0
        · subst z; exact Or.inl r4
        · rw [show k4 = 1 by omega] at r4; exact Or.inr r4
      refine Or.inl ⟨c 0, c 1, ⟨0, by omega, rfl⟩, ⟨1, by omega, rfl⟩, by omega, ?_, ?_⟩ <;> unfold bt <;> omega
theorem lex_seg {a b s : Pt} (h0 : crs a b s = 0) (h1 : s = a ∨ lx a s) (h2 : s = b ∨ lx s b) (hab : lx a b) : SegH a b (em s) := by
  refine ⟨by rw [crh_em]; exact h0, ?_⟩
  unfold bt em
  simp only [Int.one_mul]
  have hx : a.1 ≤ s.1 ∧ s.1 ≤ b.1 := by
    refine ⟨?_, ?_⟩
    · rcases h1 with h1 | h1
      · rw [h1]; exact Int.le_refl _
      · unfold lx at h1; omega
    · rcases h2 with h2 | h2
      · rw [h2]; exact Int.le_refl _
      · unfold lx at h2; omega
  refine ⟨Or.inl hx, ?_⟩
  by_cases e : a.1 = b.1
  · left
    refine ⟨?_, ?_⟩
    · rcases h1 with h1 | h1
      · rw [h1]; exact Int.le_refl _
      · unfold lx at h1; omega
    · rcases h2 with h2 | h2
      · rw [h2]; exact Int.le_refl _
      · unfold lx at h2; omega
  · have hp : 0 < b.1 - a.1 := by omega
    have g1 : (b.1 - a.1) * (s.2 - a.2) = (b.2 - a.2) * (s.1 - a.1) := by unfold crs at h0; omega
    have g2 : (b.1 - a.1) * (b.2 - s.2) = (b.2 - a.2) * (b.1 - s.1) := by grind
    by_cases u : a.2 ≤ b.2
    · left
      have i1 := Int.mul_nonneg (show 0 ≤ b.2 - a.2 by omega) (show 0 ≤ s.1 - a.1 by omega)
      have i2 := Int.mul_nonneg (show 0 ≤ b.2 - a.2 by omega) (show 0 ≤ b.1 - s.1 by omega)
      have j1 := nn_of hp (show 0 ≤ (b.1 - a.1) * (s.2 - a.2) by omega)
      have j2 := nn_of hp (show 0 ≤ (b.1 - a.1) * (b.2 - s.2) by omega)
      omega
    · right
      have i1 := Int.mul_nonneg (show 0 ≤ a.2 - b.2 by omega) (show 0 ≤ s.1 - a.1 by omega)
      have i2 := Int.mul_nonneg (show 0 ≤ a.2 - b.2 by omega) (show 0 ≤ b.1 - s.1 by omega)
      have j1 := nn_of hp (show 0 ≤ (b.1 - a.1) * (a.2 - s.2) by
        have : (b.1 - a.1) * (a.2 - s.2) = (a.2 - b.2) * (s.1 - a.1) := by grind
        omega)
      have j2 := nn_of hp (show 0 ≤ (b.1 - a.1) * (s.2 - b.2) by
        have : (b.1 - a.1) * (s.2 - b.2) = (a.2 - b.2) * (b.1 - s.1) := by grind
        omega)
      omega
theorem Poly.cvO (h : Poly O c n) {s : Pt} (hs : O s) : Cv (fun s => ∃ k, k < n ∧ s = c k) (em s) := by
  by_cases h3 : 3 ≤ n
  · exact h.in3 h3 (fun k hk => by rw [crh_em]; exact h.lft k s hk hs)
  · have hp := h.pos
    have ht := h.two (by omega) s hs
    by_cases h1 : n = 1
    · subst h1
      have e : s = c 0 := by
        rcases ht with ⟨t1, t2⟩
        rcases t1 with t1 | t1
        · exact t1
        · rcases t2 with t2 | t2
          · exact t2
          · exact (lx_asy t1 t2).elim
      exact Or.inl ⟨c 0, c 0, ⟨0, by omega, rfl⟩, ⟨0, by omega, rfl⟩, by rw [crh_em, e, crs_ab], by rw [e]; unfold bt em; simp only [Int.one_mul]; omega, by rw [e]; unfold bt em; simp only [Int.one_mul]; omega⟩
    · have h2 : n = 2 := by omega
      subst h2
      have e0 := h.lft 0 s (by omega) hs
      have e1 := h.lft 1 s (by omega) hs
      rw [show pAfter 2 0 = 1 from rfl] at e0
      rw [show pAfter 2 1 = 0 from rfl, crs_sw] at e1
      exact Or.inl ⟨c 0, c 1, ⟨0, by omega, rfl⟩, ⟨1, by omega, rfl⟩, lex_seg (by omega) ht.1 ht.2 (h.lst 1 (by omega) (by omega))⟩
theorem Poly.inC (h : Poly O c n) {k : Nat} (hk : k < n) : In c n (em (c k)) := by
  refine ⟨⟨⟨k, hk, ?_⟩, ⟨k, hk, ?_⟩, ⟨k, hk, ?_⟩, ⟨k, hk, ?_⟩⟩, fun j hj => ?_⟩
  · unfold em; simp only [Int.one_mul]; exact Int.le_refl _
  · unfold em; simp only [Int.one_mul]; exact Int.le_refl _
  · unfold em; simp only [Int.one_mul]; exact Int.le_refl _
  · unfold em; simp only [Int.one_mul]; exact Int.le_refl _
  · rw [crh_em]; exact h.lft j (c k) hj (h.mem k hk)
theorem em_pos (a : Pt) : 0 < (em a).2.2 := Int.one_pos
theorem Poly.inO (h : Poly O c n) {s : Pt} (hs : O s) : In c n (em s) :=
  In.lin h.pos (em_pos s) ((h.cvO hs).wt (em_pos s)) (fun t ⟨k, hk, e⟩ => by rw [e]; exact h.inC hk)
/-- a shape: all its points lie in the polygon of some of them -/
abbrev Shp (S O : Pt → Prop) (c : Nat → Pt) (n : Nat) : Prop := (Poly O c n) ∧ (∀ s, O s → S s) ∧ (∀ s, S s → Cv O (em s))
theorem Shp.poly {S O : Pt → Prop} {c : Nat → Pt} {n : Nat} (h : Shp S O c n) : Poly O c n := h.1
theorem Shp.sub {S O : Pt → Prop} {c : Nat → Pt} {n : Nat} (h : Shp S O c n) : ∀ s, O s → S s := h.2.1
theorem Shp.cvS {S O : Pt → Prop} {c : Nat → Pt} {n : Nat} (h : Shp S O c n) : ∀ s, S s → Cv O (em s) := h.2.2
theorem Shp.inS {S : Pt → Prop} (h : Shp S O c n) {s : Pt} (hs : S s) : In c n (em s) :=
  In.lin h.poly.pos (em_pos s) ((h.cvS s hs).wt (em_pos s)) (fun t ht => h.poly.inO ht)
theorem Shp.iff {S : Pt → Prop} (h : Shp S O c n) {q : Qt} (hm : 0 < q.2.2) : In c n q ↔ Cv S q :=
  ⟨fun hi => (h.poly.cv hi).mono (fun a ⟨k, hk, e⟩ => by rw [e]; exact h.sub _ (h.poly.mem k hk)), fun hc => In.lin h.poly.pos hm (hc.wt hm) (fun s hs => h.inS hs)⟩
