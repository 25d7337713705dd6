/-! shapes that are apart: a gap in one of few directions -/
def Gp (c : Nat → Pt) (n : Nat) (e : Nat → Pt) (k : Nat) (d : Pt) : Prop := (∀ i j, i < n → j < k → dt d (c i) < dt d (e j)) ∨ (∀ i j, i < n → j < k → dt d (e j) < dt d (c i))
def nrm (a b : Pt) : Pt := (-(b.2 - a.2), b.1 - a.1)
def Ap (c : Nat → Pt) (n : Nat) (e : Nat → Pt) (k : Nat) : Prop := Gp c n e k (1, 0) ∨ Gp c n e k (0, 1) ∨ (∃ i, i < n ∧ Gp c n e k (nrm (c i) (c (pAfter n i)))) ∨ (∃ j, j < k ∧ Gp c n e k (nrm (e j) (e (pAfter k j))))
theorem wtC {S O : Pt → Prop} {c : Nat → Pt} {n : Nat} (h : Shp S O c n) {q : Qt} (hm : 0 < q.2.2) (hw : Wt S q) : Wt (fun s => ∃ k, k < n ∧ s = c k) q :=
  (h.poly.cv (In.lin h.poly.pos hm hw (fun s hs => h.inS hs))).wt hm
theorem gap1 {S O T O' : Pt → Prop} {c e : Nat → Pt} {n k : Nat} (hS : Shp S O c n) (hT : Shp T O' e k) {d : Pt} (hg : ∀ i j, i < n → j < k → dt d (c i) < dt d (e j)) {q : Qt} (hm : 0 < q.2.2) (w1 : Wt S q) (w2 : Wt T q) : False := by
  obtain ⟨i0, hi0, hM⟩ := amax (fun i => dt d (c i)) n hS.poly.pos
  have a1 := (wtC hS hm w1).lin hm (-d.1) (-d.2) (dt d (c i0)) (fun s ⟨i, hi, es⟩ => by
    have := hM i hi
    rw [es, Int.neg_mul, Int.neg_mul]
    generalize dt d (c i0) = M at *
    unfold dt at this; omega)
  have a2 := (wtC hT hm w2).lin hm d.1 d.2 (-dt d (c i0) - 1) (fun s ⟨j, hj, es⟩ => by
    have := hg i0 j hi0 hj
    rw [es]
    generalize dt d (c i0) = M at *
    unfold dt at this; omega)
  rw [Int.neg_mul, Int.neg_mul] at a1
  rw [Int.sub_mul, Int.neg_mul, Int.one_mul] at a2
  omega
theorem gap_no {S O T O' : Pt → Prop} {c e : Nat → Pt} {n k : Nat} (hS : Shp S O c n) (hT : Shp T O' e k) {d : Pt} (hg : Gp c n e k d) {q : Qt} (hm : 0 < q.2.2) (w1 : Wt S q) (w2 : Wt T q) : False := by
  rcases hg with hg | hg
  · exact gap1 hS hT hg hm w1 w2
  · exact gap1 hT hS (fun j i hj hi => hg i j hi hj) hm w2 w1
theorem Ap.no {S O T O' : Pt → Prop} {c e : Nat → Pt} {n k : Nat} (hS : Shp S O c n) (hT : Shp T O' e k) (h : Ap c n e k) {q : Qt} (hm : 0 < q.2.2) (w1 : Wt S q) (w2 : Wt T q) : False := by
  rcases h with h | h | ⟨i, hi, h⟩ | ⟨j, hj, h⟩ <;> exact gap_no hS hT h hm w1 w2
theorem meet_q {S T : Pt → Prop} {a b g h : Pt} (ha : S a) (hb : S b) (hg : T g) (hh : T h) (hM : Meet a b g h) : ∃ q : Qt, 0 < q.2.2 ∧ Wt S q ∧ Wt T q := by
  rcases hM with m | m | m | m | ⟨m1, m2⟩
  · exact ⟨em g, em_pos g, Cv.wt (em_pos g) (Or.inl ⟨a, b, ha, hb, segI_iff.mpr m⟩), (self_cv hg).wt (em_pos g)⟩
  · exact ⟨em h, em_pos h, Cv.wt (em_pos h) (Or.inl ⟨a, b, ha, hb, segI_iff.mpr m⟩), (self_cv hh).wt (em_pos h)⟩
  · exact ⟨em a, em_pos a, (self_cv ha).wt (em_pos a), Cv.wt (em_pos a) (Or.inl ⟨g, h, hg, hh, segI_iff.mpr m⟩)⟩
  · exact ⟨em b, em_pos b, (self_cv hb).wt (em_pos b), Cv.wt (em_pos b) (Or.inl ⟨g, h, hg, hh, segI_iff.mpr m⟩)⟩
  · have d4 := crs_d4 a b g h
    have f1 : crs g h b * a.1 - crs g h a * b.1 = crs a b g * h.1 - crs a b h * g.1 := by clear m1 m2 d4; unfold crs; grind
    have f2 : crs g h b * a.2 - crs g h a * b.2 = crs a b g * h.2 - crs a b h * g.2 := by clear m1 m2 d4 f1; unfold crs; grind
    have opp : ∀ s t : Int, s * t < 0 → (0 < s ∧ t < 0) ∨ (s < 0 ∧ 0 < t) := by
      intro s t e
      rcases Int.lt_trichotomy s 0 with z | z | z
      · right
        refine ⟨z, ?_⟩
        by_cases y : 0 < t
        · exact y
        · have := Int.mul_nonneg (show 0 ≤ -s by omega) (show 0 ≤ -t by omega); rw [Int.neg_mul_neg] at this; omega
      · rw [z, Int.zero_mul] at e; omega
      · left
        refine ⟨z, ?_⟩
        by_cases y : t < 0
        · exact y
        · have := Int.mul_nonneg (show 0 ≤ s by omega) (show 0 ≤ t by omega); omega
    generalize crs a b g = u at *
    generalize crs a b h = v at *
    generalize crs g h a = w at *
    generalize crs g h b = z at *
    rcases opp _ _ m1 with ⟨p1, p2⟩ | ⟨p1, p2⟩
    · have p3 : 0 < z ∧ w < 0 := by rcases opp _ _ m2 with o | o <;> omega
      refine ⟨(-v * g.1 + u * h.1, -v * g.2 + u * h.2, -v + u), (by show 0 < -v + u; omega), ⟨a, b, a, ha, hb, ha, z, -w, 0, by omega, by omega, by omega, by omega, ?_, ?_⟩, ⟨g, h, g, hg, hh, hg, -v, u, 0, by omega, by omega, by omega, by omega, ?_, ?_⟩⟩
      · simp only [Int.zero_mul, Int.add_zero]
        rw [show z * a.1 + -w * b.1 = -v * g.1 + u * h.1 by rw [Int.neg_mul, Int.neg_mul]; omega, show z + -w = -v + u by omega, Int.mul_comm]
      · simp only [Int.zero_mul, Int.add_zero]
        rw [show z * a.2 + -w * b.2 = -v * g.2 + u * h.2 by rw [Int.neg_mul, Int.neg_mul]; omega, show z + -w = -v + u by omega, Int.mul_comm]
      · simp only [Int.zero_mul, Int.add_zero]; rw [Int.mul_comm]
      · simp only [Int.zero_mul, Int.add_zero]; rw [Int.mul_comm]
    · have p3 : z < 0 ∧ 0 < w := by rcases opp _ _ m2 with o | o <;> omega
      refine ⟨(v * g.1 + -u * h.1, v * g.2 + -u * h.2, v + -u), (by show 0 < v + -u; omega), ⟨a, b, a, ha, hb, ha, -z, w, 0, by omega, by omega, by omega, by omega, ?_, ?_⟩, ⟨g, h, g, hg, hh, hg, v, -u, 0, by omega, by omega, by omega, by omega, ?_, ?_⟩⟩
      · simp only [Int.zero_mul, Int.add_zero]
        rw [show -z * a.1 + w * b.1 = v * g.1 + -u * h.1 by rw [Int.neg_mul, Int.neg_mul]; omega, show -z + w = v + -u by omega, Int.mul_comm]
      · simp only [Int.zero_mul, Int.add_zero]
        rw [show -z * a.2 + w * b.2 = v * g.2 + -u * h.2 by rw [Int.neg_mul, Int.neg_mul]; omega, show -z + w = v + -u by omega, Int.mul_comm]
      · simp only [Int.zero_mul, Int.add_zero]; rw [Int.mul_comm]
      · simp only [Int.zero_mul, Int.add_zero]; rw [Int.mul_comm]
/-! every finite set has a polygon -/
theorem enum_ex (f : Nat → Pt) : ∀ M, 1 ≤ M → ∃ (o : Nat → Pt) (N : Nat), 1 ≤ N ∧ (∀ i j, i < j → j < N → lx (o i) (o j)) ∧ (∀ t, t < M → ∃ j, j < N ∧ f t = o j) ∧ (∀ j, j < N → ∃ t, t < M ∧ o j = f t)
  | 0, h => by omega
  | 1, _ => ⟨f, 1, by omega, fun i j a b => by omega, fun t ht => ⟨t, ht, rfl⟩, fun j hj => ⟨j, hj, rfl⟩⟩
  | M + 2, _ => by
    obtain ⟨o, N, h1, h2, h3, h4⟩ := enum_ex f (M + 1) (by omega)
    by_cases hin : ∃ j, j < N ∧ f (M + 1) = o j
    · refine ⟨o, N, h1, h2, fun t ht => ?_, fun j hj => ?_⟩
      · by_cases e : t = M + 1
        · rw [e]; exact hin
        · exact h3 t (by omega)
      · obtain ⟨t, ht, e⟩ := h4 j hj; exact ⟨t, by omega, e⟩
    · obtain ⟨r, hr, lo, hi⟩ : ∃ r, r ≤ N ∧ (∀ j, j < r → lx (o j) (f (M + 1))) ∧ (∀ j, r ≤ j → j < N → lx (f (M + 1)) (o j)) := by
        by_cases hx : ∃ j, j < N ∧ ¬ lx (o j) (f (M + 1))
        · obtain ⟨j0, hj0, hn0⟩ := hx
          obtain ⟨r, hr, hp, hmin⟩ := least (P := fun j => ¬ lx (o j) (f (M + 1))) hn0
          refine ⟨r, by omega, fun j hj => Classical.byContradiction (hmin j hj), fun j a b => ?_⟩
          have hrp : lx (f (M + 1)) (o r) := by
            rcases lx_tri (o r) (f (M + 1)) with z | z | z
            · exact absurd z hp
            · exact (hin ⟨r, by omega, z.symm⟩).elim
            · exact z
          by_cases e : j = r
          · rw [e]; exact hrp
          · exact lx_tr hrp (h2 r j (by omega) b)
        · exact ⟨N, Nat.le_refl _, fun j hj => Classical.byContradiction (fun z => hx ⟨j, hj, z⟩), fun j a b => by omega⟩
      refine ⟨fun j => if j < r then o j else if j = r then f (M + 1) else o (j - 1), N + 1, by omega, ?_, ?_, ?_⟩
      · intro i j hij hj
        show lx (if i < r then o i else if i = r then f (M + 1) else o (i - 1)) (if j < r then o j else if j = r then f (M + 1) else o (j - 1))
        by_cases c1 : j < r
        · rw [if_pos c1, if_pos (by omega)]; exact h2 i j hij (by omega)
        · rw [if_neg c1]
          by_cases c2 : j = r
          · rw [if_pos c2, if_pos (by omega)]; exact lo i (by omega)
          · rw [if_neg c2]
            by_cases c3 : i < r
            · rw [if_pos c3]; exact h2 i (j - 1) (by omega) (by omega)
            · rw [if_neg c3]
              by_cases c4 : i = r
              · rw [if_pos c4]; exact hi (j - 1) (by omega) (by omega)
              · rw [if_neg c4]; exact h2 (i - 1) (j - 1) (by omega) (by omega)
      · intro t ht
        by_cases e : t = M + 1
        · exact ⟨r, by omega, by dsimp only; rw [if_neg (Nat.lt_irrefl r), if_pos rfl, e]⟩
        · obtain ⟨j, hj, ej⟩ := h3 t (by omega)
          by_cases c1 : j < r
          · exact ⟨j, by omega, by dsimp only; rw [if_pos c1]; exact ej⟩
          · exact ⟨j + 1, by omega, by dsimp only; rw [if_neg (by omega), if_neg (by omega), Nat.add_sub_cancel]; exact ej⟩
      · intro j hj
        show ∃ t, t < M + 2 ∧ (if j < r then o j else if j = r then f (M + 1) else o (j - 1)) = f t
        by_cases c1 : j < r
        · obtain ⟨t, ht, e⟩ := h4 j (by omega); exact ⟨t, by omega, by rw [if_pos c1]; exact e⟩
        · by_cases c2 : j = r
          · exact ⟨M + 1, by omega, by rw [if_neg c1, if_pos c2]⟩
          · obtain ⟨t, ht, e⟩ := h4 (j - 1) (by omega); exact ⟨t, by omega, by rw [if_neg c1, if_neg c2]; exact e⟩
theorem poly_ex (f : Nat → Pt) {M : Nat} (hM : 1 ≤ M) : ∃ c n, Poly (fun s => ∃ t, t < M ∧ s = f t) c n := by
  obtain ⟨o, N, h1, h2, h3, h4⟩ := enum_ex f M hM
  have hO : (fun s => ∃ t, t < M ∧ s = f t) = (fun s : Pt => ∃ j, j < N ∧ s = o j) := by
    funext s
    apply propext
    constructor
    · rintro ⟨t, ht, rfl⟩; exact h3 t ht
    · rintro ⟨j, hj, rfl⟩; exact h4 j hj
  rw [hO]
  obtain ⟨l, t, hl⟩ := Ch.ex (o := o) N h1 h2
  obtain ⟨u, t', hu⟩ := Ch.ex (o := fun j => ng (o (N - 1 - j))) N h1 (fun i j a b => lx_ng (h2 (N - 1 - j) (N - 1 - i) (by omega) (by omega)))
  obtain ⟨m, rfl⟩ : ∃ m, t = m + 1 := ⟨t - 1, by have := hl.pos; omega⟩
  obtain ⟨p, rfl⟩ : ∃ p, t' = p + 1 := ⟨t' - 1, by have := hu.pos; omega⟩
  exact ⟨fun i => if i ≤ m then l i else ng (u (i - m)), _, Poly.of h1 h2 hl hu (fun i hi => if_pos hi) (fun i a b => by show (if m + i ≤ m then l (m + i) else ng (u (m + i - m))) = _; rw [if_neg (by omega), Nat.add_sub_cancel_left])⟩
theorem lagr {N v w : Pt} (h : N.1 * v.1 + N.2 * v.2 = 0) : (v.1 * v.1 + v.2 * v.2) * (N.1 * w.1 + N.2 * w.2) = (v.1 * N.2 - v.2 * N.1) * (v.1 * w.2 - v.2 * w.1) := by
  have : (v.1 * v.1 + v.2 * v.2) * (N.1 * w.1 + N.2 * w.2) - (v.1 * N.2 - v.2 * N.1) * (v.1 * w.2 - v.2 * w.1) = (v.1 * w.1 + v.2 * w.2) * (N.1 * v.1 + N.2 * v.2) := by clear h; grind
  rw [h, Int.mul_zero] at this
  omega
/-- where two corners are least in a direction an edge lies across it -/
theorem edge_par {O : Pt → Prop} {c : Nat → Pt} {n : Nat} (h : Poly O c n) {N : Pt} {i i' : Nat} (hi : i < n) (hi' : i' < n) (hne : ¬ c i = c i') (hmin : ∀ a, a < n → dt N (c i) ≤ dt N (c a)) (heq : dt N (c i') = dt N (c i)) : ∃ a, a < n ∧ dt N (c (pAfter n a)) = dt N (c a) ∧ ¬ c a = c (pAfter n a) := by
  have hii : ¬ i = i' := fun z => hne (by rw [z])
  have adj : ∀ a, a < n → ¬ c a = c (pAfter n a) := by
    intro a ha
    by_cases z : a + 1 < n
    · rw [after_lt z]; exact h.ne (by omega) z
    · rw [after_ge z]; exact fun q => h.ne (i := 0) (j := a) (by omega) ha q.symm
  obtain ⟨j, hj, hji⟩ : ∃ j, j < n ∧ pAfter n j = i := by
    by_cases e : i = 0
    · exact ⟨n - 1, by omega, by rw [after_ge (by omega), e]⟩
    · exact ⟨i - 1, by omega, by rw [after_lt (by omega)]; omega⟩
  have hV := vv_pos hne
  have l1 := h.lft i (c i') hi (h.mem i' hi')
  have l2 := h.lft j (c i') hj (h.mem i' hi')
  have m1 := hmin (pAfter n i) (pAfter_lt hi)
  have m2 := hmin j hj
  rw [hji, crs_cy] at l2
  have l1' : crs (c i) (c i') (c (pAfter n i)) ≤ 0 := by
    have : crs (c i) (c i') (c (pAfter n i)) = -crs (c i) (c (pAfter n i)) (c i') := by clear l1 l2 m1 m2 hV; unfold crs; grind
    omega
  have key : ∀ p : Pt, (((c i').1 - (c i).1) * ((c i').1 - (c i).1) + ((c i').2 - (c i).2) * ((c i').2 - (c i).2)) * (dt N p - dt N (c i)) = (((c i').1 - (c i).1) * N.2 - ((c i').2 - (c i).2) * N.1) * crs (c i) (c i') p := by
    intro p
    have := lagr (N := N) (v := ((c i').1 - (c i).1, (c i').2 - (c i).2)) (w := (p.1 - (c i).1, p.2 - (c i).2)) (by
      unfold dt at heq; simp only; rw [Int.mul_sub, Int.mul_sub]; omega)
    simp only at this
    have e : dt N p - dt N (c i) = N.1 * (p.1 - (c i).1) + N.2 * (p.2 - (c i).2) := by unfold dt; rw [Int.mul_sub, Int.mul_sub]; omega
    rw [e, this]; rfl
  have k1 := key (c (pAfter n i))
  have k2 := key (c j)
  generalize ((c i').1 - (c i).1) * ((c i').1 - (c i).1) + ((c i').2 - (c i).2) * ((c i').2 - (c i).2) = V at *
  generalize ((c i').1 - (c i).1) * N.2 - ((c i').2 - (c i).2) * N.1 = L at *
  rcases Int.lt_trichotomy L 0 with z | z | z
  · refine ⟨j, hj, ?_, adj j hj⟩
    rw [hji]
    have a1 := Int.mul_nonneg (show 0 ≤ V by omega) (show 0 ≤ dt N (c j) - dt N (c i) by omega)
    have a2 := Int.mul_nonneg (show 0 ≤ -L by omega) l2
    rw [Int.neg_mul] at a2
    have a3 : V * (dt N (c j) - dt N (c i)) = 0 := by omega
    have := (Int.mul_eq_zero.mp a3).resolve_left (by omega)
    omega
  · refine ⟨i, hi, ?_, adj i hi⟩
    rw [z, Int.zero_mul] at k1
    have := (Int.mul_eq_zero.mp k1).resolve_left (by omega)
    omega
  · refine ⟨i, hi, ?_, adj i hi⟩
    have a1 := Int.mul_nonneg (show 0 ≤ V by omega) (show 0 ≤ dt N (c (pAfter n i)) - dt N (c i) by omega)
    have a2 := Int.mul_nonneg (show 0 ≤ L by omega) (show 0 ≤ -crs (c i) (c i') (c (pAfter n i)) by omega)
    rw [Int.mul_neg] at a2
    have a3 : V * (dt N (c (pAfter n i)) - dt N (c i)) = 0 := by omega
    have := (Int.mul_eq_zero.mp a3).resolve_left (by omega)
    omega
theorem gp_of {c e : Nat → Pt} {n k : Nat} (hn : 1 ≤ n) (hk : 1 ≤ k) {N a b : Pt} (hab : ¬ a = b) (h0 : dt N b = dt N a) (hp : ∀ i j, i < n → j < k → 0 < dt N (c i) - dt N (e j)) : Gp c n e k (nrm a b) := by
  have hV := vv_pos hab
  have key : ∀ p q : Pt, ((b.1 - a.1) * (b.1 - a.1) + (b.2 - a.2) * (b.2 - a.2)) * (dt N p - dt N q) = ((b.1 - a.1) * N.2 - (b.2 - a.2) * N.1) * (dt (nrm a b) p - dt (nrm a b) q) := by
    intro p q
    have := lagr (N := N) (v := (b.1 - a.1, b.2 - a.2)) (w := (p.1 - q.1, p.2 - q.2)) (by
      unfold dt at h0; simp only; rw [Int.mul_sub, Int.mul_sub]; omega)
    simp only at this
    have e1 : dt N p - dt N q = N.1 * (p.1 - q.1) + N.2 * (p.2 - q.2) := by unfold dt; rw [Int.mul_sub, Int.mul_sub]; omega
    have e2 : dt (nrm a b) p - dt (nrm a b) q = (b.1 - a.1) * (p.2 - q.2) - (b.2 - a.2) * (p.1 - q.1) := by
      unfold dt nrm; simp only; rw [Int.mul_sub, Int.mul_sub, Int.neg_mul, Int.neg_mul]; omega
    rw [e1, e2, this]
  generalize (b.1 - a.1) * (b.1 - a.1) + (b.2 - a.2) * (b.2 - a.2) = V at *
  generalize (b.1 - a.1) * N.2 - (b.2 - a.2) * N.1 = L at *
  rcases Int.lt_trichotomy L 0 with z | z | z
  · left
    intro i j hi hj
    have a1 := Int.mul_pos hV (hp i j hi hj)
    rw [key] at a1
    have := ps_of (show 0 < -L by omega) (x := -(dt (nrm a b) (c i) - dt (nrm a b) (e j))) (by rw [Int.neg_mul_neg]; exact a1)
    omega
  · have a1 := Int.mul_pos hV (hp 0 0 (by omega) (by omega))
    rw [key, z, Int.zero_mul] at a1
    omega
  · right
    intro i j hi hj
    have a1 := Int.mul_pos hV (hp i j hi hj)
    rw [key] at a1
    have := ps_of z a1
    omega
