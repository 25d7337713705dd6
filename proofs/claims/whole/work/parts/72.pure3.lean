/-! pure: what the class narrows is the times at which two boxes meet -/
def AxO (lw hg sp p q : Int) : Prop := lw * q < sp * p ∧ sp * p < hg * q
def AxC (lw hg sp p q : Int) : Prop := lw * q ≤ sp * p ∧ sp * p ≤ hg * q
theorem mx_o {u l n k p q : Int} (hl : 0 < l) (hk : 0 < k) (hq : 0 < q) : (u * q < p * l ∧ n * q < p * k) ↔ (if u * k < n * l then n * q < p * k else u * q < p * l) := by
  by_cases h : u * k < n * l
  · rw [if_pos h]; exact ⟨fun z => z.2, fun z => ⟨fr_lt_le hl hk hq h (Int.le_of_lt z), z⟩⟩
  · rw [if_neg h]; exact ⟨fun z => z.1, fun z => ⟨z, fr_le_lt hk hl hq (by omega) z⟩⟩
theorem mx_c {u l n k p q : Int} (hl : 0 < l) (hk : 0 < k) (hq : 0 < q) : (u * q ≤ p * l ∧ n * q ≤ p * k) ↔ (if u * k < n * l then n * q ≤ p * k else u * q ≤ p * l) := by
  by_cases h : u * k < n * l
  · rw [if_pos h]; exact ⟨fun z => z.2, fun z => ⟨fr_le_le hl hk hq (Int.le_of_lt h) z, z⟩⟩
  · rw [if_neg h]; exact ⟨fun z => z.1, fun z => ⟨z, fr_le_le hk hl hq (by omega) z⟩⟩
theorem mn_o {v w f k p q : Int} (hw : 0 < w) (hk : 0 < k) (hq : 0 < q) : (p * w < v * q ∧ p * k < f * q) ↔ (if f * w < v * k then p * k < f * q else p * w < v * q) := by
  by_cases h : f * w < v * k
  · rw [if_pos h]; exact ⟨fun z => z.2, fun z => ⟨fr_lt_le hq hk hw z (Int.le_of_lt h), z⟩⟩
  · rw [if_neg h]; exact ⟨fun z => z.1, fun z => ⟨z, fr_lt_le hq hw hk z (by omega)⟩⟩
theorem mn_c {v w f k p q : Int} (hw : 0 < w) (hk : 0 < k) (hq : 0 < q) : (p * w ≤ v * q ∧ p * k ≤ f * q) ↔ (if f * w < v * k then p * k ≤ f * q else p * w ≤ v * q) := by
  by_cases h : f * w < v * k
  · rw [if_pos h]; exact ⟨fun z => z.2, fun z => ⟨fr_le_le hq hk hw z (Int.le_of_lt h), z⟩⟩
  · rw [if_neg h]; exact ⟨fun z => z.1, fun z => ⟨z, fr_le_le hq hw hk z (by omega)⟩⟩
theorem iAbs_pos {s : Int} (h : s ≠ 0) : 0 < iAbs s := by unfold iAbs; split <;> omega
theorem nf_o {lw hg sp p q : Int} : AxO lw hg sp p q ↔ (iNear lw hg sp * q < p * iAbs sp ∧ p * iAbs sp < iFar lw hg sp * q) := by
  unfold AxO iNear iFar iAbs
  have e1 : p * sp = sp * p := Int.mul_comm p sp
  have e2 : p * -sp = -(sp * p) := by grind
  have e3 : -hg * q = -(hg * q) := by grind
  have e4 : -lw * q = -(lw * q) := by grind
  split <;> constructor <;> intro h <;> omega
theorem nf_c {lw hg sp p q : Int} : AxC lw hg sp p q ↔ (iNear lw hg sp * q ≤ p * iAbs sp ∧ p * iAbs sp ≤ iFar lw hg sp * q) := by
  unfold AxC iNear iFar iAbs
  have e1 : p * sp = sp * p := Int.mul_comm p sp
  have e2 : p * -sp = -(sp * p) := by grind
  have e3 : -hg * q = -(hg * q) := by grind
  have e4 : -lw * q = -(lw * q) := by grind
  split <;> constructor <;> intro h <;> omega
theorem nar_o {u l v w lw hg sp p q : Int} (hl : 0 < l) (hw : 0 < w) (hq : 0 < q) (hs : sp ≠ 0) : ((u * q < p * l ∧ p * w < v * q) ∧ AxO lw hg sp p q) ↔ (iNu u l lw hg sp * q < p * iNl u l lw hg sp ∧ p * iEl v w lw hg sp < iEu v w lw hg sp * q) := by
  have hk := iAbs_pos hs
  rw [nf_o]
  have h1 := mx_o (u := u) (n := iNear lw hg sp) (p := p) hl hk hq
  have h2 := mn_o (v := v) (f := iFar lw hg sp) (p := p) hw hk hq
  unfold iNu iNl iEu iEl
  rw [if_neg hs, if_neg hs, if_neg hs, if_neg hs]
  by_cases c1 : u * iAbs sp < iNear lw hg sp * l <;> by_cases c2 : iFar lw hg sp * w < v * iAbs sp <;> simp only [c1, c2, ↓reduceIte] at h1 h2 ⊢
  · exact ⟨fun x => ⟨h1.mp ⟨x.1.1, x.2.1⟩, h2.mp ⟨x.1.2, x.2.2⟩⟩, fun x => ⟨⟨(h1.mpr x.1).1, (h2.mpr x.2).1⟩, (h1.mpr x.1).2, (h2.mpr x.2).2⟩⟩
  · exact ⟨fun x => ⟨h1.mp ⟨x.1.1, x.2.1⟩, h2.mp ⟨x.1.2, x.2.2⟩⟩, fun x => ⟨⟨(h1.mpr x.1).1, (h2.mpr x.2).1⟩, (h1.mpr x.1).2, (h2.mpr x.2).2⟩⟩
  · exact ⟨fun x => ⟨h1.mp ⟨x.1.1, x.2.1⟩, h2.mp ⟨x.1.2, x.2.2⟩⟩, fun x => ⟨⟨(h1.mpr x.1).1, (h2.mpr x.2).1⟩, (h1.mpr x.1).2, (h2.mpr x.2).2⟩⟩
  · exact ⟨fun x => ⟨h1.mp ⟨x.1.1, x.2.1⟩, h2.mp ⟨x.1.2, x.2.2⟩⟩, fun x => ⟨⟨(h1.mpr x.1).1, (h2.mpr x.2).1⟩, (h1.mpr x.1).2, (h2.mpr x.2).2⟩⟩
theorem nar_c {u l v w lw hg sp p q : Int} (hl : 0 < l) (hw : 0 < w) (hq : 0 < q) (hs : sp ≠ 0) : ((u * q ≤ p * l ∧ p * w ≤ v * q) ∧ AxC lw hg sp p q) ↔ (iNu u l lw hg sp * q ≤ p * iNl u l lw hg sp ∧ p * iEl v w lw hg sp ≤ iEu v w lw hg sp * q) := by
  have hk := iAbs_pos hs
  rw [nf_c]
  have h1 := mx_c (u := u) (n := iNear lw hg sp) (p := p) hl hk hq
  have h2 := mn_c (v := v) (f := iFar lw hg sp) (p := p) hw hk hq
  unfold iNu iNl iEu iEl
  rw [if_neg hs, if_neg hs, if_neg hs, if_neg hs]
  by_cases c1 : u * iAbs sp < iNear lw hg sp * l <;> by_cases c2 : iFar lw hg sp * w < v * iAbs sp <;> simp only [c1, c2, ↓reduceIte] at h1 h2 ⊢
  · exact ⟨fun x => ⟨h1.mp ⟨x.1.1, x.2.1⟩, h2.mp ⟨x.1.2, x.2.2⟩⟩, fun x => ⟨⟨(h1.mpr x.1).1, (h2.mpr x.2).1⟩, (h1.mpr x.1).2, (h2.mpr x.2).2⟩⟩
  · exact ⟨fun x => ⟨h1.mp ⟨x.1.1, x.2.1⟩, h2.mp ⟨x.1.2, x.2.2⟩⟩, fun x => ⟨⟨(h1.mpr x.1).1, (h2.mpr x.2).1⟩, (h1.mpr x.1).2, (h2.mpr x.2).2⟩⟩
  · exact ⟨fun x => ⟨h1.mp ⟨x.1.1, x.2.1⟩, h2.mp ⟨x.1.2, x.2.2⟩⟩, fun x => ⟨⟨(h1.mpr x.1).1, (h2.mpr x.2).1⟩, (h1.mpr x.1).2, (h2.mpr x.2).2⟩⟩
  · exact ⟨fun x => ⟨h1.mp ⟨x.1.1, x.2.1⟩, h2.mp ⟨x.1.2, x.2.2⟩⟩, fun x => ⟨⟨(h1.mpr x.1).1, (h2.mpr x.2).1⟩, (h1.mpr x.1).2, (h2.mpr x.2).2⟩⟩
theorem pos_of_mul {a b : Int} (hb : 0 < b) (h : 0 < a * b) : 0 < a := by
  rcases Int.lt_or_le 0 a with h1 | h1
  · exact h1
  · have := Int.mul_nonneg (show 0 ≤ -a by omega) (Int.le_of_lt hb)
    have e : -a * b = -(a * b) := by grind
    omega
/-- the parts stay in order: lower parts above 0, the first time from 0 on, the last up to 1 -/
theorem nar_ok {u l v w lw hg sp : Int} (hl : 0 < l) (hw : 0 < w) (hu : 0 ≤ u) (hv : v ≤ w) : 0 < iNl u l lw hg sp ∧ 0 < iEl v w lw hg sp ∧ 0 ≤ iNu u l lw hg sp ∧ iEu v w lw hg sp ≤ iEl v w lw hg sp := by
  unfold iNu iNl iEu iEl
  by_cases hs : sp = 0
  · rw [if_pos hs, if_pos hs, if_pos hs, if_pos hs]; exact ⟨hl, hw, hu, hv⟩
  · have hk := iAbs_pos hs
    rw [if_neg hs, if_neg hs, if_neg hs, if_neg hs]
    have a1 : 0 ≤ u * iAbs sp := Int.mul_nonneg hu (Int.le_of_lt hk)
    have a2 : v * iAbs sp ≤ w * iAbs sp := Int.mul_le_mul_of_nonneg_right hv (Int.le_of_lt hk)
    refine ⟨?_, ?_, ?_, ?_⟩
    · split; exact hk; exact hl
    · split; exact hk; exact hw
    · split
      · rename_i c1; exact Int.le_of_lt (pos_of_mul hl (by omega))
      · exact hu
    · split
      · rename_i c1
        have : 0 < (iAbs sp - iFar lw hg sp) * w := by
          have e : (iAbs sp - iFar lw hg sp) * w = w * iAbs sp - iFar lw hg sp * w := by grind
          omega
        have := pos_of_mul hw this
        omega
      · exact hv
/-- what was narrowed so far, for open times; C is what it is to say -/
def NO (C : Int → Int → Prop) (u l v w : Int64) (bar : Bool) : Prop := (0 < l.toInt ∧ 0 < w.toInt ∧ 0 ≤ u.toInt ∧ v.toInt ≤ w.toInt) ∧ (sm 1048576 u ∧ sm 1048576 l ∧ sm 1048576 v ∧ sm 1048576 w) ∧ ∀ p q : Int, 0 < q → 0 < p → p < q → (C p q ↔ bar = false ∧ u.toInt * q < p * l.toInt ∧ p * w.toInt < v.toInt * q)
def NC (C : Int → Int → Prop) (u l v w : Int64) (bar : Bool) : Prop := (0 < l.toInt ∧ 0 < w.toInt ∧ 0 ≤ u.toInt ∧ v.toInt ≤ w.toInt) ∧ (sm 1048576 u ∧ sm 1048576 l ∧ sm 1048576 v ∧ sm 1048576 w) ∧ ∀ p q : Int, 0 < q → 0 ≤ p → p ≤ q → (C p q ↔ bar = false ∧ u.toInt * q ≤ p * l.toInt ∧ p * w.toInt ≤ v.toInt * q)
theorem sm1 : sm 1048576 (1 : Int64) := by unfold sm; decide
theorem sm0 : sm 1048576 (0 : Int64) := by unfold sm; decide
theorem NO_start : NO (fun _ _ => True) 0 1 1 1 false := by
  refine ⟨by decide, ⟨sm0, sm1, sm1, sm1⟩, fun p q hq hp h => ?_⟩
  rw [i0, i1]; constructor
  · intro _; exact ⟨rfl, by omega, by omega⟩
  · intro _; trivial
theorem NC_start : NC (fun _ _ => True) 0 1 1 1 false := by
  refine ⟨by decide, ⟨sm0, sm1, sm1, sm1⟩, fun p q hq hp h => ?_⟩
  rw [i0, i1]; constructor
  · intro _; exact ⟨rfl, by omega, by omega⟩
  · intro _; trivial
theorem mul_lt0 {a q : Int} (hq : 0 < q) : a * q < 0 ↔ a < 0 := by
  constructor
  · intro h
    have e : -a * q = -(a * q) := by grind
    have := pos_of_mul (a := -a) hq (by omega)
    omega
  · intro h
    have := Int.mul_pos (show 0 < -a by omega) hq
    have e : -a * q = -(a * q) := by grind
    omega
theorem mul_gt0 {a q : Int} (hq : 0 < q) : 0 < a * q ↔ 0 < a := ⟨pos_of_mul hq, fun h => Int.mul_pos h hq⟩
theorem NO_step {C : Int → Int → Prop} {u l_ v w a b s : Int64} {bar : Bool} (h : NO C u l_ v w bar) (ha : sm 1048576 a) (hb : sm 1048576 b) (hs : sm 1048576 s) : NO (fun p q => C p q ∧ AxO a.toInt b.toInt s.toInt p q) (pNu u l_ a b s) (pNl u l_ a b s) (pNeu v w a b s) (pNel v w a b s) (pNb bar a b s false) := by
  obtain ⟨⟨h1, h2, h3, h4⟩, ⟨s1, s2, s3, s4⟩, hC⟩ := h
  obtain ⟨n1, n2, n3, n4⟩ := pNu_i s1 s2 ha hb hs
  obtain ⟨e1, e2, e3, e4⟩ := pNe_i s3 s4 ha hb hs
  have hok := nar_ok (lw := a.toInt) (hg := b.toInt) (sp := s.toInt) h1 h2 h3 h4
  refine ⟨?_, ⟨n2, n4, e2, e4⟩, fun p q hq hp hpq => ?_⟩
  · rw [n1, n3, e1, e3]; exact hok
  · rw [n1, n3, e1, e3]
    show (C p q ∧ AxO a.toInt b.toInt s.toInt p q) ↔ _
    rw [hC p q hq hp hpq]
    by_cases h0 : s.toInt = 0
    · have hs0 : s = 0 := z_iff.mpr h0
      unfold iNu iNl iEu iEl AxO pNb
      rw [if_pos h0, if_pos h0, if_pos h0, if_pos h0, h0]
      have g1 := mul_lt0 (a := a.toInt) hq
      have g2 := mul_gt0 (a := b.toInt) hq
      have c1 : (0 < a) ↔ 0 < a.toInt := by rw [Int64.lt_iff_toInt_lt, i0]
      have c2 : (b < 0) ↔ b.toInt < 0 := by rw [Int64.lt_iff_toInt_lt, i0]
      have c3 : (a = 0) ↔ a.toInt = 0 := z_iff
      have c4 : (b = 0) ↔ b.toInt = 0 := z_iff
      simp only [Int.zero_mul, g1, g2, hs0, decide_true, Bool.true_and, Bool.or_eq_false_iff, Bool.not_false, decide_eq_false_iff_not, c1, c2, c3, c4]
      constructor
      · rintro ⟨⟨k1, k2, k3⟩, k4, k5⟩; exact ⟨⟨k1, ⟨⟨by omega, by omega⟩, by omega, by omega⟩⟩, k2, k3⟩
      · rintro ⟨⟨k1, ⟨⟨k4, k5⟩, k6, k7⟩⟩, k2, k3⟩; exact ⟨⟨k1, k2, k3⟩, by omega, by omega⟩
    · have hs0 : ¬ s = 0 := fun z => h0 (z_iff.mp z)
      rw [← nar_o h1 h2 hq h0]
      unfold pNb
      simp only [hs0, decide_false, Bool.false_and, Bool.or_false]
      exact ⟨fun z => ⟨z.1.1, z.1.2, z.2⟩, fun z => ⟨⟨z.1, z.2.1⟩, z.2.2⟩⟩
theorem NC_step {C : Int → Int → Prop} {u l_ v w a b s : Int64} {bar : Bool} (h : NC C u l_ v w bar) (ha : sm 1048576 a) (hb : sm 1048576 b) (hs : sm 1048576 s) : NC (fun p q => C p q ∧ AxC a.toInt b.toInt s.toInt p q) (pNu u l_ a b s) (pNl u l_ a b s) (pNeu v w a b s) (pNel v w a b s) (pNb bar a b s true) := by
  obtain ⟨⟨h1, h2, h3, h4⟩, ⟨s1, s2, s3, s4⟩, hC⟩ := h
  obtain ⟨n1, n2, n3, n4⟩ := pNu_i s1 s2 ha hb hs
  obtain ⟨e1, e2, e3, e4⟩ := pNe_i s3 s4 ha hb hs
  have hok := nar_ok (lw := a.toInt) (hg := b.toInt) (sp := s.toInt) h1 h2 h3 h4
  refine ⟨?_, ⟨n2, n4, e2, e4⟩, fun p q hq hp hpq => ?_⟩
  · rw [n1, n3, e1, e3]; exact hok
  · rw [n1, n3, e1, e3]
    show (C p q ∧ AxC a.toInt b.toInt s.toInt p q) ↔ _
    rw [hC p q hq hp hpq]
    by_cases h0 : s.toInt = 0
    · have hs0 : s = 0 := z_iff.mpr h0
      unfold iNu iNl iEu iEl AxC pNb
      rw [if_pos h0, if_pos h0, if_pos h0, if_pos h0, h0]
      have g1 := mul_gt0 (a := a.toInt) hq
      have g2 := mul_lt0 (a := b.toInt) hq
      have c1 : (0 < a) ↔ 0 < a.toInt := by rw [Int64.lt_iff_toInt_lt, i0]
      have c2 : (b < 0) ↔ b.toInt < 0 := by rw [Int64.lt_iff_toInt_lt, i0]
      simp only [Int.zero_mul, hs0, decide_true, Bool.true_and, Bool.or_eq_false_iff, Bool.not_true, Bool.false_and, Bool.or_false, decide_eq_false_iff_not, c1, c2]
      constructor
      · rintro ⟨⟨k1, k2, k3⟩, k4, k5⟩; exact ⟨⟨k1, ⟨fun z => by have := g1.mpr z; omega, fun z => by have := g2.mpr z; omega⟩⟩, k2, k3⟩
      · rintro ⟨⟨k1, ⟨k4, k5⟩⟩, k2, k3⟩
        refine ⟨⟨k1, k2, k3⟩, ?_, ?_⟩
        · rcases Int.lt_or_le 0 (a.toInt * q) with z | z
          · exact absurd (g1.mp z) k4
          · exact z
        · rcases Int.lt_or_le (b.toInt * q) 0 with z | z
          · exact absurd (g2.mp z) k5
          · exact z
    · have hs0 : ¬ s = 0 := fun z => h0 (z_iff.mp z)
      rw [← nar_c h1 h2 hq h0]
      unfold pNb
      simp only [hs0, decide_false, Bool.false_and, Bool.or_false]
      exact ⟨fun z => ⟨z.1.1, z.1.2, z.2⟩, fun z => ⟨⟨z.1, z.2.1⟩, z.2.2⟩⟩
/-- open times: there are some just where the first is before the last, and the first is their infimum -/
theorem NO_inf {C : Int → Int → Prop} {u l_ v w : Int64} {bar : Bool} (h : NO C u l_ v w bar) :
    ((bar = false ∧ u.toInt * w.toInt < v.toInt * l_.toInt) ↔ ∃ p q : Int, 0 < q ∧ 0 < p ∧ p < q ∧ C p q) ∧ ((bar = false ∧ u.toInt * w.toInt < v.toInt * l_.toInt) → isInf (fun p q => 0 < p ∧ p < q ∧ C p q) u.toInt l_.toInt) := by
  obtain ⟨⟨h1, h2, h3, h4⟩, _, hC⟩ := h
  have inside : ∀ p q : Int, 0 < q → bar = false → u.toInt * q < p * l_.toInt → p * w.toInt < v.toInt * q → 0 < p ∧ p < q ∧ C p q := by
    intro p q hq hb ha hz
    have hp : 0 < p := by
      have := Int.mul_nonneg h3 (Int.le_of_lt hq)
      exact pos_of_mul h1 (by omega)
    have hpq : p < q := by
      have : v.toInt * q ≤ w.toInt * q := Int.mul_le_mul_of_nonneg_right h4 (Int.le_of_lt hq)
      have e : (q - p) * w.toInt = w.toInt * q - p * w.toInt := by grind
      have := pos_of_mul (a := q - p) h2 (by omega)
      omega
    exact ⟨hp, hpq, (hC p q hq hp hpq).mpr ⟨hb, ha, hz⟩⟩
  refine ⟨⟨fun hb => ?_, ?_⟩, fun hb => ⟨h1, ?_, ?_⟩⟩
  · obtain ⟨m1, m2, m3⟩ := fr_mid h1 h2 hb.2
    have := inside _ _ m1 hb.1 m2 m3
    exact ⟨_, _, m1, this⟩
  · rintro ⟨p, q, hq, hp, hpq, hc⟩
    obtain ⟨k1, k2, k3⟩ := (hC p q hq hp hpq).mp hc
    exact ⟨k1, fr_lt_le h1 hq h2 k2 (Int.le_of_lt k3)⟩
  · rintro p q hq ⟨hp, hpq, hc⟩
    exact Int.le_of_lt ((hC p q hq hp hpq).mp hc).2.1
  · intro p q hq hlt
    rcases Int.lt_or_le (p * w.toInt) (v.toInt * q) with z | z
    · obtain ⟨m1, m2, m3⟩ := fr_mid h1 hq hlt
      exact ⟨_, _, m1, inside _ _ m1 hb.1 m2 (fr_lt_le m1 hq h2 m3 (Int.le_of_lt z)), m3⟩
    · obtain ⟨m1, m2, m3⟩ := fr_mid h1 h2 hb.2
      exact ⟨_, _, m1, inside _ _ m1 hb.1 m2 m3, fr_lt_le m1 h2 hq m3 z⟩
theorem NC_inf {C : Int → Int → Prop} {u l_ v w : Int64} {bar : Bool} (h : NC C u l_ v w bar) :
    ((bar = false ∧ u.toInt * w.toInt ≤ v.toInt * l_.toInt) ↔ ∃ p q : Int, 0 < q ∧ 0 ≤ p ∧ p ≤ q ∧ C p q) ∧ ((bar = false ∧ u.toInt * w.toInt ≤ v.toInt * l_.toInt) → isInf (fun p q => 0 ≤ p ∧ p ≤ q ∧ C p q) u.toInt l_.toInt) := by
  obtain ⟨⟨h1, h2, h3, h4⟩, _, hC⟩ := h
  have self : bar = false → u.toInt * w.toInt ≤ v.toInt * l_.toInt → 0 ≤ u.toInt ∧ u.toInt ≤ l_.toInt ∧ C u.toInt l_.toInt := by
    intro hb hz
    have hpq : u.toInt ≤ l_.toInt := by
      have : v.toInt * l_.toInt ≤ w.toInt * l_.toInt := Int.mul_le_mul_of_nonneg_right h4 (Int.le_of_lt h1)
      have e : w.toInt * l_.toInt = l_.toInt * w.toInt := Int.mul_comm _ _
      exact Int.le_of_mul_le_mul_right (by omega) h2
    exact ⟨h3, hpq, (hC _ _ h1 h3 hpq).mpr ⟨hb, Int.le_refl _, hz⟩⟩
  refine ⟨⟨fun hb => ⟨_, _, h1, self hb.1 hb.2⟩, ?_⟩, fun hb => ⟨h1, ?_, ?_⟩⟩
  · rintro ⟨p, q, hq, hp, hpq, hc⟩
    obtain ⟨k1, k2, k3⟩ := (hC p q hq hp hpq).mp hc
    exact ⟨k1, fr_le_le h1 hq h2 k2 k3⟩
  · rintro p q hq ⟨hp, hpq, hc⟩
    exact ((hC p q hq hp hpq).mp hc).2.1
  · intro p q hq hlt
    exact ⟨_, _, h1, self hb.1 hb.2, hlt⟩
