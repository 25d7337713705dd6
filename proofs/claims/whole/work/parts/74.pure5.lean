/-! pure: lowest terms, and the reference's list of times -/
theorem gcdN : ∀ (k a b : Nat), b ≤ a → a * b < 2 ^ k → a < 2 ^ 63 → pGcd k (lN a) (lN b) = lN (Nat.gcd a b) := by
  intro k
  induction k with
  | zero =>
    intro a b h1 h2 h3
    have hb : b = 0 := by
      rcases Nat.eq_zero_or_pos b with z | z
      · exact z
      · have := Nat.mul_pos (show 0 < a by omega) z; omega
    subst hb
    rw [Nat.gcd_zero_right]; rfl
  | succ k ih =>
    intro a b h1 h2 h3
    unfold pGcd
    rcases Nat.eq_zero_or_pos b with z | z
    · subst z
      rw [if_pos (show lN 0 = 0 from rfl), Nat.gcd_zero_right]
    · have hne : ¬ lN b = 0 := fun h => absurd ((pk_lEQ (by omega) (by decide : (0:Nat) < 2 ^ 63)).mp h) (by omega)
      rw [if_neg hne, pk_lRem h3 z (by omega)]
      have hlt := Nat.mod_lt a z
      have hdm := Nat.div_add_mod a b
      have hq : 1 ≤ a / b := Nat.div_pos h1 z
      have hq2 : b * 1 ≤ b * (a / b) := Nat.mul_le_mul_left b hq
      have h5 : b * (2 * (a % b)) ≤ b * a := Nat.mul_le_mul_left b (by omega)
      have e1 : b * (2 * (a % b)) = 2 * (b * (a % b)) := by grind
      have e2 : b * a = a * b := Nat.mul_comm b a
      have e3 : 2 ^ (k + 1) = 2 * 2 ^ k := by rw [Nat.pow_succ]; omega
      rw [ih b (a % b) (by omega) (by omega) (by omega), Nat.gcd_comm a b, Nat.gcd_rec b a, Nat.gcd_comm (a % b) b]
theorem gcd100 {a b : Nat} (ha : a ≤ 1048576) (hb : b ≤ 1048576) : pGcd 100 (lN a) (lN b) = lN (Nat.gcd a b) := by
  have hm : a * b ≤ 1048576 * 1048576 := Nat.mul_le_mul ha hb
  have hp : (1048576 * 1048576 : Nat) < 2 ^ 99 := by decide
  have hp2 : (1048576 * 1048576 : Nat) < 2 ^ 100 := by decide
  rcases Nat.lt_or_ge a b with h | h
  · have hne : ¬ lN b = 0 := fun h => absurd ((pk_lEQ (by omega) (by decide : (0:Nat) < 2 ^ 63)).mp h) (by omega)
    show pGcd (99 + 1) (lN a) (lN b) = _
    unfold pGcd
    rw [if_neg hne, pk_lRem (by omega) (by omega) (by omega), Nat.mod_eq_of_lt h, gcdN 99 b a (by omega) (by rw [Nat.mul_comm]; omega) (by omega), Nat.gcd_comm]
  · exact gcdN 100 a b h (by omega) (by omega)
theorem lN_of {x : Int64} (h : 0 ≤ x.toInt) : x = lN x.toInt.toNat := by
  apply Int64.toInt_inj.mp
  have := Int64.toInt_lt x
  rw [pk_lT (by omega)]
  omega
theorem lMax1 {g : Nat} (h0 : 0 < g) (h : g < 2 ^ 63) : lMax 1 (lN g) = lN g := by
  unfold lMax
  have : ¬ lN g < 1 := fun z => by
    have := (pk_lLT h (by decide : (1:Nat) < 2 ^ 63)).mp z
    omega
  rw [if_neg this]
theorem div_low {u l_ : Int64} (h0 : 0 ≤ u.toInt) (h1 : 0 < l_.toInt) (hu : u.toInt ≤ 1048576) (hl : l_.toInt ≤ 1048576) : u / pDiv u l_ = mTu u l_ ∧ l_ / pDiv u l_ = mTl u l_ := by
  unfold mTu mTl
  have e1 := lN_of h0
  have e2 := lN_of (show 0 ≤ l_.toInt by omega)
  have b1 : u.toInt.toNat ≤ 1048576 := by omega
  have b2 : l_.toInt.toNat ≤ 1048576 := by omega
  have b3 : 0 < l_.toInt.toNat := by omega
  generalize u.toInt.toNat = a at *
  generalize l_.toInt.toNat = b at *
  have hg : 0 < Nat.gcd a b := Nat.gcd_pos_of_pos_right a b3
  have hg2 : Nat.gcd a b ≤ b := Nat.gcd_le_right a b3
  rw [e1, e2]
  unfold pDiv
  rw [gcd100 b1 b2, lMax1 hg (by omega), pk_lDiv (by omega) hg (by omega), pk_lDiv (by omega) hg (by omega)]
  exact ⟨rfl, rfl⟩
theorem low_eq {u l_ v k : Int64} (hu : 0 ≤ u.toInt) (hl : 0 < l_.toInt) (hv : 0 ≤ v.toInt) (hk : 0 < k.toInt) (h : u.toInt * k.toInt = v.toInt * l_.toInt) : mTu u l_ = mTu v k ∧ mTl u l_ = mTl v k := by
  unfold mTu mTl
  obtain ⟨a, ha⟩ := Int.eq_ofNat_of_zero_le hu
  obtain ⟨b, hb⟩ := Int.eq_ofNat_of_zero_le (Int.le_of_lt hl)
  obtain ⟨x, hx⟩ := Int.eq_ofNat_of_zero_le hv
  obtain ⟨d, hd⟩ := Int.eq_ofNat_of_zero_le (Int.le_of_lt hk)
  rw [ha, hd, hx, hb] at h
  rw [hb] at hl
  rw [hd] at hk
  rw [ha, hb, hx, hd]
  rw [Int.toNat_natCast, Int.toNat_natCast, Int.toNat_natCast, Int.toNat_natCast]
  have h9 : a * d = x * b := by exact_mod_cast h
  have := low_terms (a := a) (b := b) (x := x) (d := d) (by omega) (by omega) h9
  rw [this.1, this.2]; exact ⟨rfl, rfl⟩
/-- where a time comes to lie among those in order -/
theorem ins_pos : ∀ (q : Nat) (gu gl : Nat → Int64) (u l_ : Int64), ∃ m, m ≤ q ∧ (∀ j, j < m → mIU q gu gl u l_ j = gu j ∧ mIL q gu gl u l_ j = gl j) ∧ (mIU q gu gl u l_ m = u ∧ mIL q gu gl u l_ m = l_) ∧ (∀ j, m ≤ j → j < q → mIU q gu gl u l_ (j + 1) = gu j ∧ mIL q gu gl u l_ (j + 1) = gl j ∧ u * gl j < gu j * l_) ∧ (0 < m → ¬ u * gl (m - 1) < gu (m - 1) * l_) := by
  intro q
  induction q with
  | zero =>
    intro gu gl u l_
    refine ⟨0, Nat.le_refl _, fun j h => absurd h (Nat.not_lt_zero j), ?_, fun j _ h => absurd h (Nat.not_lt_zero j), fun h => absurd h (Nat.lt_irrefl 0)⟩
    unfold mIU mIL vp_updL; simp
  | succ q ih =>
    intro gu gl u l_
    unfold mIU mIL
    by_cases hc : u * gl q < gu q * l_
    · simp only [hc, if_true]
      obtain ⟨m, h1, h2, h3, h4, h5⟩ := ih (vp_updL gu (q + 1) (gu q)) (vp_updL gl (q + 1) (gl q)) u l_
      refine ⟨m, by omega, ?_, h3, ?_, ?_⟩
      · intro j hj
        rw [(h2 j hj).1, (h2 j hj).2]
        unfold vp_updL
        rw [if_neg (by omega), if_neg (by omega)]; exact ⟨rfl, rfl⟩
      · intro j hm hj
        rcases Nat.lt_or_ge j q with z | z
        · obtain ⟨a, b, d⟩ := h4 j hm z
          rw [a, b]
          unfold vp_updL at d ⊢
          rw [if_neg (by omega), if_neg (by omega)] at d ⊢
          exact ⟨rfl, rfl, d⟩
        · have e : j = q := by omega
          subst e
          rw [mIU_out _ _ _ _ _ _ (by omega), mIL_out _ _ _ _ _ _ (by omega)]
          unfold vp_updL
          rw [if_pos rfl, if_pos rfl]; exact ⟨rfl, rfl, hc⟩
      · intro hm
        have := h5 hm
        unfold vp_updL at this
        rw [if_neg (by omega), if_neg (by omega)] at this
        exact this
    · simp only [hc, if_false]
      refine ⟨q + 1, Nat.le_refl _, ?_, ?_, fun j h1 h2 => absurd h2 (by omega), fun _ => hc⟩
      · intro j hj
        unfold vp_updL
        rw [if_neg (by omega), if_neg (by omega)]; exact ⟨rfl, rfl⟩
      · unfold vp_updL
        rw [if_pos rfl, if_pos rfl]; exact ⟨rfl, rfl⟩
def SLq (q : (Nat → Int64) × (Nat → Int64) × Nat) : Prop := (∀ j, j < q.2.2 → 0 ≤ (q.1 j).toInt ∧ (q.1 j).toInt ≤ (q.2.1 j).toInt ∧ 0 < (q.2.1 j).toInt ∧ (q.2.1 j).toInt ≤ 1048576) ∧ (∀ i j, i ≤ j → j < q.2.2 → (q.1 i).toInt * (q.2.1 j).toInt ≤ (q.1 j).toInt * (q.2.1 i).toInt)
def SMq (q : (Nat → Int64) × (Nat → Int64) × Nat) (a b : Int) : Prop := ∃ j, j < q.2.2 ∧ (q.1 j).toInt = a ∧ (q.2.1 j).toInt = b
theorem sub_i {x y : Int64} (hx : sm 1048576 x) (hy : sm 1048576 y) : (x - y).toInt = x.toInt - y.toInt := tI_sub (by have := hx.1; have := hy.2; omega) (by have := hx.2; have := hy.1; omega)
theorem lt0_i {x : Int64} : x < 0 ↔ x.toInt < 0 := by rw [Int64.lt_iff_toInt_lt, i0]
theorem sm_mono {m n : Int} {x : Int64} (h : sm m x) (hmn : m ≤ n) : sm n x := ⟨by have := h.1; omega, by have := h.2; omega⟩
theorem mAu_i {fr to by_ : Int64} (h1 : sm 100000 fr) (h2 : sm 100000 to) : (mAu_ fr to by_).toInt = rN (to.toInt - fr.toInt) by_.toInt := by
  have g1 := sm_mono (n := 1048576) h1 (by decide)
  have g2 := sm_mono (n := 1048576) h2 (by decide)
  unfold mAu_ rN
  by_cases h : by_ < 0
  · rw [if_pos h, if_pos (lt0_i.mp h), sub_i g1 g2]; omega
  · rw [if_neg h, if_neg (fun z => h (lt0_i.mpr z)), sub_i g2 g1]
theorem mAl_i {by_ : Int64} (h : sm 100000 by_) : (mAl_ by_).toInt = rD by_.toInt := by
  unfold mAl_ rD
  by_cases h0 : by_ < 0
  · rw [if_pos h0, if_pos (lt0_i.mp h0), tI_neg (by have := h.1; omega) (by have := h.2; omega)]
  · rw [if_neg h0, if_neg (fun z => h0 (lt0_i.mpr z))]
theorem ins_ok {gu gl : Nat → Int64} {n : Nat} {u l_ : Int64} (h : SLq (gu, gl, n)) (h0 : 0 ≤ u.toInt) (h1 : u.toInt ≤ l_.toInt) (h2 : 0 < l_.toInt) (h3 : l_.toInt ≤ 1048576) :
    SLq (mIU n gu gl u l_, mIL n gu gl u l_, n + 1) ∧ (∀ a b, SMq (gu, gl, n) a b → SMq (mIU n gu gl u l_, mIL n gu gl u l_, n + 1) a b) ∧ SMq (mIU n gu gl u l_, mIL n gu gl u l_, n + 1) u.toInt l_.toInt := by
  obtain ⟨hR, hS⟩ := h
  simp only at hR hS
  obtain ⟨m, m1, m2, m3, m4, m5⟩ := ins_pos n gu gl u l_
  have su : sm 1048576 u := ⟨by omega, by omega⟩
  have sl : sm 1048576 l_ := ⟨by omega, by omega⟩
  have sg : ∀ j, j < n → sm 1048576 (gu j) ∧ sm 1048576 (gl j) := fun j hj => by
    have := hR j hj
    exact ⟨⟨by omega, by omega⟩, ⟨by omega, by omega⟩⟩
  have hc : ∀ j, j < n → (u * gl j < gu j * l_ ↔ u.toInt * (gl j).toInt < (gu j).toInt * l_.toInt) := fun j hj => pr_lt su (sg j hj).2 (sg j hj).1 sl
  have hlo : ∀ j, j < m → (gu j).toInt * l_.toInt ≤ u.toInt * (gl j).toInt := by
    intro j hj
    have a := m5 (by omega)
    rw [hc (m - 1) (by omega)] at a
    have b := hS j (m - 1) (by omega) (by omega)
    exact fr_le_le (hR j (by omega)).2.2.1 (hR (m - 1) (by omega)).2.2.1 h2 b (by omega)
  have hhi : ∀ j, m ≤ j → j < n → u.toInt * (gl j).toInt ≤ (gu j).toInt * l_.toInt := fun j hm hj => Int.le_of_lt ((hc j hj).mp (m4 j hm hj).2.2)
  generalize mIU n gu gl u l_ = r at *
  generalize mIL n gu gl u l_ = t at *
  have hval : ∀ j, j < n + 1 → (j < m ∧ r j = gu j ∧ t j = gl j) ∨ (j = m ∧ r j = u ∧ t j = l_) ∨ (m < j ∧ r j = gu (j - 1) ∧ t j = gl (j - 1)) := by
    intro j hj
    rcases Nat.lt_trichotomy j m with z | z | z
    · exact Or.inl ⟨z, m2 j z⟩
    · subst z; exact Or.inr (Or.inl ⟨rfl, m3⟩)
    · have := m4 (j - 1) (by omega) (by omega)
      rw [show j - 1 + 1 = j from by omega] at this
      exact Or.inr (Or.inr ⟨z, this.1, this.2.1⟩)
  refine ⟨⟨?_, ?_⟩, ?_, ?_⟩
  · intro j hj
    rcases hval j hj with ⟨z, e1, e2⟩ | ⟨z, e1, e2⟩ | ⟨z, e1, e2⟩
    · simp only [e1, e2]; exact hR j (by omega)
    · simp only [e1, e2]; exact ⟨h0, h1, h2, h3⟩
    · simp only [e1, e2]; exact hR (j - 1) (by have : j < n + 1 := hj; omega)
  · intro i j hij hj
    have hj' : j < n + 1 := hj
    rcases hval i (by omega) with ⟨z, e1, e2⟩ | ⟨z, e1, e2⟩ | ⟨z, e1, e2⟩ <;> rcases hval j hj' with ⟨y, f1, f2⟩ | ⟨y, f1, f2⟩ | ⟨y, f1, f2⟩ <;> simp only [e1, e2, f1, f2]
    · exact hS i j hij (by omega)
    · exact hlo i z
    · exact hS i (j - 1) (by omega) (by omega)
    · omega
    · exact Int.le_refl _
    · exact hhi (j - 1) (by omega) (by omega)
    · omega
    · omega
    · exact hS (i - 1) (j - 1) (by omega) (by omega)
  · rintro a b ⟨j, hj, e1, e2⟩
    have hj' : j < n := hj
    rcases Nat.lt_or_ge j m with z | z
    · have := m2 j z
      exact ⟨j, by show j < n + 1; omega, by simp only [this.1]; exact e1, by simp only [this.2]; exact e2⟩
    · have := m4 j z hj'
      exact ⟨j + 1, by show j + 1 < n + 1; omega, by simp only [this.1]; exact e1, by simp only [this.2.1]; exact e2⟩
  · exact ⟨m, by show m < n + 1; omega, by simp only [m3.1], by simp only [m3.2]⟩
theorem add_ok {q : (Nat → Int64) × (Nat → Int64) × Nat} {fr to by_ : Int64} (h : SLq q) (h1 : sm 100000 fr) (h2 : sm 100000 to) (h3 : sm 100000 by_) :
    SLq (mAdd q fr to by_) ∧ (∀ a b, SMq q a b → SMq (mAdd q fr to by_) a b) ∧ (0 < rD by_.toInt → 0 ≤ rN (to.toInt - fr.toInt) by_.toInt → rN (to.toInt - fr.toInt) by_.toInt ≤ rD by_.toInt → SMq (mAdd q fr to by_) (rN (to.toInt - fr.toInt) by_.toInt) (rD by_.toInt)) := by
  have eu := mAu_i (by_ := by_) h1 h2
  have el := mAl_i h3
  have hb : rD by_.toInt ≤ 100000 := by have := h3.1; have := h3.2; unfold rD; split <;> omega
  rw [← eu, ← el]
  rw [← el] at hb
  unfold mAdd
  by_cases hk : mAok fr to by_
  · rw [if_pos (pB_t hk)]
    unfold mAok at hk
    obtain ⟨k1, k2, k3⟩ := hk
    rw [Int64.le_iff_toInt_le, i0] at k2
    rw [Int64.le_iff_toInt_le] at k3
    rw [z_iff] at k1
    obtain ⟨gu, gl, n⟩ := q
    obtain ⟨a, b, d⟩ := ins_ok (u := mAu_ fr to by_) (l_ := mAl_ by_) h k2 k3 (by omega) (by omega)
    exact ⟨a, b, fun _ _ _ => d⟩
  · rw [if_neg (by rw [pB_f hk]; decide)]
    refine ⟨h, fun a b z => z, fun a b d => absurd ?_ hk⟩
    unfold mAok
    rw [z_iff, Int64.le_iff_toInt_le, i0, Int64.le_iff_toInt_le]
    exact ⟨by omega, b, d⟩
theorem sm_i {n : Int} (x : Int64) (h1 : -n ≤ x.toInt) (h2 : x.toInt ≤ n) : sm n x := ⟨h1, h2⟩
/-- the reference's times: in order, with 0, 1 and the roots -/
theorem mo_ok {o0 o1 o2 o3 t0 t1 t2 t3 mx my : Int64} (a0 : sm 100000 o0) (a1 : sm 100000 o1) (a2 : sm 100000 o2) (a3 : sm 100000 o3) (b0 : sm 100000 t0) (b1 : sm 100000 t1) (b2 : sm 100000 t2) (b3 : sm 100000 t3) (hx : sm 100000 mx) (hy : sm 100000 my) :
    SLq (cQ o0 o1 o2 o3 t0 t1 t2 t3 mx my) ∧ TL (fun j => ((cQ o0 o1 o2 o3 t0 t1 t2 t3 mx my).1 j).toInt) (fun j => ((cQ o0 o1 o2 o3 t0 t1 t2 t3 mx my).2.1 j).toInt) (cQ o0 o1 o2 o3 t0 t1 t2 t3 mx my).2.2 ∧
    (Rt (fun j => ((cQ o0 o1 o2 o3 t0 t1 t2 t3 mx my).1 j).toInt) (fun j => ((cQ o0 o1 o2 o3 t0 t1 t2 t3 mx my).2.1 j).toInt) (cQ o0 o1 o2 o3 t0 t1 t2 t3 mx my).2.2 (t0.toInt - o2.toInt) mx.toInt ∧ Rt (fun j => ((cQ o0 o1 o2 o3 t0 t1 t2 t3 mx my).1 j).toInt) (fun j => ((cQ o0 o1 o2 o3 t0 t1 t2 t3 mx my).2.1 j).toInt) (cQ o0 o1 o2 o3 t0 t1 t2 t3 mx my).2.2 (t2.toInt - o0.toInt) mx.toInt ∧
     Rt (fun j => ((cQ o0 o1 o2 o3 t0 t1 t2 t3 mx my).1 j).toInt) (fun j => ((cQ o0 o1 o2 o3 t0 t1 t2 t3 mx my).2.1 j).toInt) (cQ o0 o1 o2 o3 t0 t1 t2 t3 mx my).2.2 (t1.toInt - o3.toInt) my.toInt ∧ Rt (fun j => ((cQ o0 o1 o2 o3 t0 t1 t2 t3 mx my).1 j).toInt) (fun j => ((cQ o0 o1 o2 o3 t0 t1 t2 t3 mx my).2.1 j).toInt) (cQ o0 o1 o2 o3 t0 t1 t2 t3 mx my).2.2 (t3.toInt - o1.toInt) my.toInt) := by
  have s0 : sm 100000 (0 : Int64) := by unfold sm; decide
  have s1 : sm 100000 (1 : Int64) := by unfold sm; decide
  have e : cQ o0 o1 o2 o3 t0 t1 t2 t3 mx my = mAdd (mAdd (mAdd (mAdd (mAdd (mAdd (fun _ => 0, fun _ => 0, 0) 0 0 1) 0 1 1) o0 t2 mx) o2 t0 mx) o1 t3 my) o3 t1 my := rfl
  rw [e]
  have q0 : SLq ((fun _ => 0, fun _ => 0, 0) : (Nat → Int64) × (Nat → Int64) × Nat) := ⟨fun j h => absurd h (Nat.not_lt_zero j), fun i j _ h => absurd h (Nat.not_lt_zero j)⟩
  generalize ((fun _ => 0, fun _ => 0, 0) : (Nat → Int64) × (Nat → Int64) × Nat) = Q0 at *
  obtain ⟨q1, k1, r1⟩ := add_ok q0 s0 s0 s1
  generalize mAdd Q0 0 0 1 = Q1 at *
  obtain ⟨q2, k2, r2⟩ := add_ok q1 s0 s1 s1
  generalize mAdd Q1 0 1 1 = Q2 at *
  obtain ⟨q3, k3, r3⟩ := add_ok q2 a0 b2 hx
  generalize mAdd Q2 o0 t2 mx = Q3 at *
  obtain ⟨q4, k4, r4⟩ := add_ok q3 a2 b0 hx
  generalize mAdd Q3 o2 t0 mx = Q4 at *
  obtain ⟨q5, k5, r5⟩ := add_ok q4 a1 b3 hy
  generalize mAdd Q4 o1 t3 my = Q5 at *
  obtain ⟨q6, k6, r6⟩ := add_ok q5 a3 b1 hy
  generalize mAdd Q5 o3 t1 my = Q6 at *
  have z0 : SMq Q6 0 1 := k6 _ _ (k5 _ _ (k4 _ _ (k3 _ _ (k2 _ _ (r1 (by decide) (by decide) (by decide))))))
  have z1 : SMq Q6 1 1 := k6 _ _ (k5 _ _ (k4 _ _ (k3 _ _ (r2 (by decide) (by decide) (by decide)))))
  refine ⟨q6, ⟨fun j hj => ?_, fun i j hij hj => q6.2 i j hij hj, ?_, ?_⟩, fun x y z => k6 _ _ (k5 _ _ (r4 x y z)), fun x y z => k6 _ _ (k5 _ _ (k4 _ _ (r3 x y z))), r6, fun x y z => k6 _ _ (r5 x y z)⟩
  · have := q6.1 j hj; exact ⟨this.1, this.2.1, this.2.2.1⟩
  · obtain ⟨j, h1, h2, h3⟩ := z0; exact ⟨j, h1, h2⟩
  · obtain ⟨j, h1, h2, h3⟩ := z1; exact ⟨j, h1, by show (Q6.1 j).toInt = (Q6.2.1 j).toInt; rw [h2, h3]⟩
