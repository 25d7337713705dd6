/-! the plane in longs -/
def ptL (x y : Int64) : Pt := (x.toInt, y.toInt)
def pt (fx fy : Nat → Int64) (i : Nat) : Pt := ((fx i).toInt, (fy i).toInt)
def s2 (x y : Int64) : Prop := sm 10000 x ∧ sm 10000 y
theorem d_i {x y : Int64} (hx : sm 10000 x) (hy : sm 10000 y) : (x - y).toInt = x.toInt - y.toInt ∧ sm 20000 (x - y) := by
  have h := sub_i (sm_mono hx (show (10000 : Int) ≤ 1048576 by omega)) (sm_mono hy (by omega))
  refine ⟨h, ?_⟩
  unfold sm at *; rw [h]; omega
theorem pp_i {a b d e : Int64} (ha : sm 20000 a) (hb : sm 20000 b) (hd : sm 20000 d) (he : sm 20000 e) : (a * b - d * e).toInt = a.toInt * b.toInt - d.toInt * e.toInt := by
  have h1 := pr_b (a := a.toInt) (b := b.toInt) (by have := ha.1; omega) (by have := ha.2; omega) (by have := hb.1; omega) (by have := hb.2; omega)
  have h2 := pr_b (a := d.toInt) (b := e.toInt) (by have := hd.1; omega) (by have := hd.2; omega) (by have := he.1; omega) (by have := he.2; omega)
  have m : ∀ {x : Int64}, sm 20000 x → sm 1048576 x := fun h => sm_mono h (by omega)
  rw [tI_sub (by rw [pr_i (m ha) (m hb), pr_i (m hd) (m he)]; omega) (by rw [pr_i (m ha) (m hb), pr_i (m hd) (m he)]; omega), pr_i (m ha) (m hb), pr_i (m hd) (m he)]
theorem ps_i {a b d e : Int64} (ha : sm 20000 a) (hb : sm 20000 b) (hd : sm 20000 d) (he : sm 20000 e) : (a * b + d * e).toInt = a.toInt * b.toInt + d.toInt * e.toInt := by
  have h1 := pr_b (a := a.toInt) (b := b.toInt) (by have := ha.1; omega) (by have := ha.2; omega) (by have := hb.1; omega) (by have := hb.2; omega)
  have h2 := pr_b (a := d.toInt) (b := e.toInt) (by have := hd.1; omega) (by have := hd.2; omega) (by have := he.1; omega) (by have := he.2; omega)
  have m : ∀ {x : Int64}, sm 20000 x → sm 1048576 x := fun h => sm_mono h (by omega)
  rw [tI_add (by rw [pr_i (m ha) (m hb), pr_i (m hd) (m he)]; omega) (by rw [pr_i (m ha) (m hb), pr_i (m hd) (m he)]; omega), pr_i (m ha) (m hb), pr_i (m hd) (m he)]
theorem mTurn_i {ax ay bx by_ x y : Int64} (ha : s2 ax ay) (hb : s2 bx by_) (hx : s2 x y) : (mTurn ax ay bx by_ x y).toInt = crs (ptL ax ay) (ptL bx by_) (ptL x y) := by
  unfold mTurn
  rw [pp_i (d_i hb.1 ha.1).2 (d_i hx.2 ha.2).2 (d_i hb.2 ha.2).2 (d_i hx.1 ha.1).2, (d_i hb.1 ha.1).1, (d_i hx.2 ha.2).1, (d_i hb.2 ha.2).1, (d_i hx.1 ha.1).1]
  rfl
theorem mBetw_i {a b v : Int64} : mBetw a b v ↔ bt a.toInt b.toInt v.toInt := by
  unfold mBetw bt; simp only [Int64.le_iff_toInt_le]
theorem mOn_i {ax ay bx by_ x y : Int64} (ha : s2 ax ay) (hb : s2 bx by_) (hx : s2 x y) : mOn ax ay bx by_ x y ↔ SegI (ptL ax ay) (ptL bx by_) (ptL x y) := by
  unfold mOn SegI
  rw [z_iff, mTurn_i ha hb hx, mBetw_i, mBetw_i]; exact Iff.rfl
theorem le0_i {x : Int64} : x ≤ 0 ↔ x.toInt ≤ 0 := by rw [Int64.le_iff_toInt_le, i0]
theorem ge0_i {x : Int64} : 0 ≤ x ↔ 0 ≤ x.toInt := by rw [Int64.le_iff_toInt_le, i0]
theorem gt0_i {x : Int64} : 0 < x ↔ 0 < x.toInt := by rw [Int64.lt_iff_toInt_lt, i0]
theorem mTri_i {fx fy : Nat → Int64} {a b d : Nat} {x y : Int64} (ha : s2 (fx a) (fy a)) (hb : s2 (fx b) (fy b)) (hd : s2 (fx d) (fy d)) (hx : s2 x y) : mTri fx fy a b d x y ↔ TriH (pt fx fy a) (pt fx fy b) (pt fx fy d) (em (ptL x y)) := by
  unfold mTri TriH
  rw [z_iff, ge0_i, ge0_i, ge0_i, le0_i, le0_i, le0_i, mTurn_i ha hb hd, mTurn_i ha hb hx, mTurn_i hb hd hx, mTurn_i hd ha hx, crh_em, crh_em, crh_em]; exact Iff.rfl
theorem tri_cy {a b d : Pt} {q : Qt} (h : TriH a b d q) : TriH b d a q := by
  unfold TriH at *
  rw [crs_cy] at h
  refine ⟨h.1, ?_⟩
  rcases h.2 with ⟨h1, h2, h3⟩ | ⟨h1, h2, h3⟩
  · exact Or.inl ⟨h2, h3, h1⟩
  · exact Or.inr ⟨h2, h3, h1⟩
theorem tri_sw {a b d : Pt} {q : Qt} (h : TriH a b d q) : TriH b a d q := by
  unfold TriH at *
  refine ⟨by have := h.1; rw [crs_sw]; omega, ?_⟩
  have e1 := crh_sw a b q
  have e2 := crh_sw b d q
  have e3 := crh_sw d a q
  rcases h.2 with ⟨h1, h2, h3⟩ | ⟨h1, h2, h3⟩
  · exact Or.inr (by omega)
  · exact Or.inl (by omega)
theorem seg_sw {a b : Pt} {q : Qt} (h : SegH a b q) : SegH b a q := by
  unfold SegH at *
  have e1 := crh_sw a b q
  refine ⟨by omega, ?_, ?_⟩
  · have := h.2.1; unfold bt at *; omega
  · have := h.2.2; unfold bt at *; omega
def ptS (fx fy : Nat → Int64) (fr to : Nat) (s : Pt) : Prop := ∃ a, fr ≤ a ∧ a < to ∧ s = pt fx fy a
def ptsOK (fx fy : Nat → Int64) (fr to : Nat) : Prop := ∀ a, fr ≤ a → a < to → s2 (fx a) (fy a)
theorem skip_i {fx fy : Nat → Int64} {lv : Bool} {x y : Int64} {k : Nat} : mSkip fx fy lv x y k ↔ (lv = true ∧ pt fx fy k = ptL x y) := by
  unfold mSkip pt ptL
  rw [Prod.mk.injEq, Int64.toInt_inj, Int64.toInt_inj]
theorem mIn_i {fx fy : Nat → Int64} {fr to : Nat} (hok : ptsOK fx fy fr to) (lv : Bool) {x y : Int64} (hx : s2 x y) : mIn fx fy lv x y fr to ↔ Cv (fun s => ptS fx fy fr to s ∧ ¬ (lv = true ∧ s = ptL x y)) (em (ptL x y)) := by
  have mem : ∀ a, fr ≤ a → a < to → ¬ mSkip fx fy lv x y a → ptS fx fy fr to (pt fx fy a) ∧ ¬ (lv = true ∧ pt fx fy a = ptL x y) := fun a h1 h2 h3 => ⟨⟨a, h1, h2, rfl⟩, fun z => h3 (skip_i.mpr z)⟩
  constructor
  · rintro ⟨a, h1, h2, h3, b, h4, h5, h6, h7⟩
    rcases h7 with h7 | ⟨d, h8, h9, h10, h11⟩
    · exact Or.inl ⟨_, _, mem a h1 h2 h3, mem b (by omega) h5 h6, segI_iff.mpr ((mOn_i (hok a h1 h2) (hok b (by omega) h5) hx).mp h7)⟩
    · exact Or.inr ⟨_, _, _, mem a h1 h2 h3, mem b (by omega) h5 h6, mem d (by omega) h9 h10, (mTri_i (hok a h1 h2) (hok b (by omega) h5) (hok d (by omega) h9) hx).mp h11⟩
  · have nsk : ∀ a, ¬ (lv = true ∧ pt fx fy a = ptL x y) → ¬ mSkip fx fy lv x y a := fun a h z => h (skip_i.mp z)
    rintro (⟨s, t, ⟨⟨a, a1, a2, rfl⟩, a3⟩, ⟨⟨b, b1, b2, rfl⟩, b3⟩, h⟩ | ⟨s, t, u, ⟨⟨a, a1, a2, rfl⟩, a3⟩, ⟨⟨b, b1, b2, rfl⟩, b3⟩, ⟨⟨d, d1, d2, rfl⟩, d3⟩, h⟩)
    · by_cases o : a ≤ b
      · exact ⟨a, a1, a2, nsk a a3, b, o, b2, nsk b b3, Or.inl ((mOn_i (hok a a1 a2) (hok b b1 b2) hx).mpr (segI_iff.mp h))⟩
      · exact ⟨b, b1, b2, nsk b b3, a, by omega, a2, nsk a a3, Or.inl ((mOn_i (hok b b1 b2) (hok a a1 a2) hx).mpr (segI_iff.mp (seg_sw h)))⟩
    · have put : ∀ i j k, fr ≤ i → j < to → k < to → i < j → j < k → ¬ mSkip fx fy lv x y i → ¬ mSkip fx fy lv x y j → ¬ mSkip fx fy lv x y k → TriH (pt fx fy i) (pt fx fy j) (pt fx fy k) (em (ptL x y)) → mIn fx fy lv x y fr to := fun i j k g1 g2 g3 g4 g5 n1 n2 n3 ht =>
        ⟨i, g1, by omega, n1, j, by omega, g2, n2, Or.inr ⟨k, g5, g3, n3, (mTri_i (hok i g1 (by omega)) (hok j (by omega) g2) (hok k (by omega) g3) hx).mpr ht⟩⟩
      have nab : ¬ a = b := fun z => h.1 (by rw [z, crs_sw]; have := crs_sw (pt fx fy b) (pt fx fy b) (pt fx fy d); omega)
      have nbd : ¬ b = d := fun z => h.1 (by rw [z, crs_bb])
      have nad : ¬ a = d := fun z => h.1 (by rw [z, crs_ab])
      by_cases o1 : a < b
      · by_cases o2 : b < d
        · exact put a b d a1 b2 d2 o1 o2 (nsk a a3) (nsk b b3) (nsk d d3) h
        · by_cases o3 : a < d
          · exact put a d b a1 d2 b2 o3 (by omega) (nsk a a3) (nsk d d3) (nsk b b3) (tri_sw (tri_cy (tri_cy h)))
          · exact put d a b d1 a2 b2 (by omega) o1 (nsk d d3) (nsk a a3) (nsk b b3) (tri_cy (tri_cy h))
      · by_cases o2 : a < d
        · exact put b a d b1 a2 d2 (by omega) o2 (nsk b b3) (nsk a a3) (nsk d d3) (tri_sw h)
        · by_cases o3 : b < d
          · exact put b d a b1 d2 a2 o3 (by omega) (nsk b b3) (nsk d d3) (nsk a a3) (tri_cy h)
          · exact put d b a d1 b2 a2 (by omega) (by omega) (nsk d d3) (nsk b b3) (nsk a a3) (tri_cy (tri_cy (tri_sw h)))
theorem Cv_congr {S T : Pt → Prop} {q : Qt} (h : ∀ s, S s ↔ T s) : Cv S q ↔ Cv T q := ⟨fun z => z.mono (fun a => (h a).mp), fun z => z.mono (fun a => (h a).mpr)⟩
theorem mIn_f {fx fy : Nat → Int64} {fr to : Nat} (hok : ptsOK fx fy fr to) {x y : Int64} (hx : s2 x y) : mIn fx fy false x y fr to ↔ Cv (ptS fx fy fr to) (em (ptL x y)) := by
  rw [mIn_i hok false hx]
  exact Cv_congr (fun s => ⟨fun z => z.1, fun z => ⟨z, fun w => Bool.false_ne_true w.1⟩⟩)
theorem mIn_t {fx fy : Nat → Int64} {fr to : Nat} (hok : ptsOK fx fy fr to) {x y : Int64} (hx : s2 x y) : mIn fx fy true x y fr to ↔ Cv (fun s => ptS fx fy fr to s ∧ ¬ s = ptL x y) (em (ptL x y)) := by
  rw [mIn_i hok true hx]
  exact Cv_congr (fun s => ⟨fun z => ⟨z.1, fun w => z.2 ⟨rfl, w⟩⟩, fun z => ⟨z.1, fun w => z.2 w.2⟩⟩)
/-! segments that meet -/
theorem side_p {v : Int64} (h : 0 < v.toInt) : mSide v = 1 := by unfold mSide; rw [if_pos (gt0_i.mpr h)]
theorem side_n {v : Int64} (h : v.toInt < 0) : mSide v = -1 := by unfold mSide; rw [if_neg (fun z => by have := gt0_i.mp z; omega), if_pos (lt0_i.mpr h)]
theorem side_z {v : Int64} (h : v.toInt = 0) : mSide v = 0 := by unfold mSide; rw [if_neg (fun z => by have := gt0_i.mp z; omega), if_neg (fun z => by have := lt0_i.mp z; omega)]
theorem side_i (v w : Int64) : mSide v * mSide w < 0 ↔ v.toInt * w.toInt < 0 := by
  rcases Int.lt_trichotomy v.toInt 0 with a | a | a <;> rcases Int.lt_trichotomy w.toInt 0 with b | b | b
  · rw [side_n a, side_n b]
    have := Int.mul_pos (show 0 < -v.toInt by omega) (show 0 < -w.toInt by omega); rw [Int.neg_mul_neg] at this
    exact ⟨fun z => absurd z (by decide), fun z => by omega⟩
  · rw [side_n a, side_z b, b, Int.mul_zero]
    exact ⟨fun z => absurd z (by decide), fun z => by omega⟩
  · rw [side_n a, side_p b]
    have := Int.mul_pos (show 0 < -v.toInt by omega) b; rw [Int.neg_mul] at this
    exact ⟨fun _ => by omega, fun _ => by decide⟩
  · rw [side_z a, side_n b, a, Int.zero_mul]
    exact ⟨fun z => absurd z (by decide), fun z => by omega⟩
  · rw [side_z a, side_z b, a, Int.zero_mul]
    exact ⟨fun z => absurd z (by decide), fun z => by omega⟩
  · rw [side_z a, side_p b, a, Int.zero_mul]
    exact ⟨fun z => absurd z (by decide), fun z => by omega⟩
  · rw [side_p a, side_n b]
    have := Int.mul_pos a (show 0 < -w.toInt by omega); rw [Int.mul_neg] at this
    exact ⟨fun _ => by omega, fun _ => by decide⟩
  · rw [side_p a, side_z b, b, Int.mul_zero]
    exact ⟨fun z => absurd z (by decide), fun z => by omega⟩
  · rw [side_p a, side_p b]
    have := Int.mul_pos a b
    exact ⟨fun z => absurd z (by decide), fun z => by omega⟩
theorem mMeet_i {fx fy : Nat → Int64} {a b g h : Nat} (ha : s2 (fx a) (fy a)) (hb : s2 (fx b) (fy b)) (hg : s2 (fx g) (fy g)) (hh : s2 (fx h) (fy h)) : mMeet fx fy a b g h ↔ Meet (pt fx fy a) (pt fx fy b) (pt fx fy g) (pt fx fy h) := by
  unfold mMeet Meet
  rw [mOn_i ha hb hg, mOn_i ha hb hh, mOn_i hg hh ha, mOn_i hg hh hb, side_i, side_i, mTurn_i ha hb hg, mTurn_i ha hb hh, mTurn_i hg hh ha, mTurn_i hg hh hb]; exact Iff.rfl
theorem segI_sw {a b s : Pt} (h : SegI a b s) : SegI b a s := segI_iff.mp (seg_sw (segI_iff.mpr h))
theorem meet_sw1 {a b g h : Pt} (m : Meet a b g h) : Meet b a g h := by
  rcases m with m | m | m | m | ⟨m1, m2⟩
  · exact Or.inl (segI_sw m)
  · exact Or.inr (Or.inl (segI_sw m))
  · exact Or.inr (Or.inr (Or.inr (Or.inl m)))
  · exact Or.inr (Or.inr (Or.inl m))
  · refine Or.inr (Or.inr (Or.inr (Or.inr ⟨?_, by rw [Int.mul_comm]; exact m2⟩)))
    rw [crs_sw b a g, crs_sw b a h, Int.neg_mul_neg]; exact m1
theorem meet_sw2 {a b g h : Pt} (m : Meet a b g h) : Meet a b h g := by
  rcases m with m | m | m | m | ⟨m1, m2⟩
  · exact Or.inr (Or.inl m)
  · exact Or.inl m
  · exact Or.inr (Or.inr (Or.inl (segI_sw m)))
  · exact Or.inr (Or.inr (Or.inr (Or.inl (segI_sw m))))
  · refine Or.inr (Or.inr (Or.inr (Or.inr ⟨by rw [Int.mul_comm]; exact m1, ?_⟩)))
    rw [crs_sw h g a, crs_sw h g b, Int.neg_mul_neg]; exact m2
theorem mX_i {fx fy : Nat → Int64} {fs ts ft tt : Nat} (h1 : ptsOK fx fy fs ts) (h2 : ptsOK fx fy ft tt) : mX fx fy fs ts ft tt ↔ ∃ a b g h, ptS fx fy fs ts a ∧ ptS fx fy fs ts b ∧ ptS fx fy ft tt g ∧ ptS fx fy ft tt h ∧ Meet a b g h := by
  constructor
  · rintro ⟨a, a1, a2, b, b1, b2, g, g1, g2, h, h3, h4, hm⟩
    exact ⟨_, _, _, _, ⟨a, a1, a2, rfl⟩, ⟨b, by omega, b2, rfl⟩, ⟨g, g1, g2, rfl⟩, ⟨h, by omega, h4, rfl⟩, (mMeet_i (h1 a a1 a2) (h1 b (by omega) b2) (h2 g g1 g2) (h2 h (by omega) h4)).mp hm⟩
  · rintro ⟨_, _, _, _, ⟨a, a1, a2, rfl⟩, ⟨b, b1, b2, rfl⟩, ⟨g, g1, g2, rfl⟩, ⟨h, h3, h4, rfl⟩, hm⟩
    have put : ∀ i j k l, fs ≤ i → i ≤ j → j < ts → ft ≤ k → k ≤ l → l < tt → Meet (pt fx fy i) (pt fx fy j) (pt fx fy k) (pt fx fy l) → mX fx fy fs ts ft tt := fun i j k l q1 q2 q3 q4 q5 q6 m =>
      ⟨i, q1, by omega, j, q2, q3, k, q4, by omega, l, q5, q6, (mMeet_i (h1 i q1 (by omega)) (h1 j (by omega) q3) (h2 k q4 (by omega)) (h2 l (by omega) q6)).mpr m⟩
    by_cases o1 : a ≤ b
    · by_cases o2 : g ≤ h
      · exact put a b g h a1 o1 b2 g1 o2 h4 hm
      · exact put a b h g a1 o1 b2 h3 (by omega) g2 (meet_sw2 hm)
    · by_cases o2 : g ≤ h
      · exact put b a g h b1 (by omega) a2 g1 o2 h4 (meet_sw1 hm)
      · exact put b a h g b1 (by omega) a2 h3 (by omega) g2 (meet_sw1 (meet_sw2 hm))
