/-! pure: one axis, as whole numbers -/
theorem tI_neg {x : Int64} (h1 : -4611686018427387904 ≤ x.toInt) (h2 : x.toInt ≤ 4611686018427387904) : (-x).toInt = -x.toInt := by rw [Int64.toInt_neg]; exact bm64 (by omega) (by omega)
theorem i0 : (0 : Int64).toInt = 0 := by decide
theorem i1 : (1 : Int64).toInt = 1 := by decide
theorem im1 : (-1 : Int64).toInt = -1 := by decide
/-- small numbers -/
def sm (n : Int) (x : Int64) : Prop := -n ≤ x.toInt ∧ x.toInt ≤ n
def iAbs (z : Int) : Int := if 0 < z then z else -z
def iNear (lw hg sp : Int) : Int := if 0 < sp then lw else -hg
def iFar (lw hg sp : Int) : Int := if 0 < sp then hg else -lw
theorem lAbs_i {x : Int64} (h : sm 1048576 x) : (lAbs x).toInt = iAbs x.toInt := by
  obtain ⟨h1, h2⟩ := h
  unfold lAbs iAbs
  by_cases hc : 0 < x
  · rw [if_pos hc]; rw [Int64.lt_iff_toInt_lt, i0] at hc; rw [if_pos hc]
  · rw [if_neg hc]; rw [Int64.lt_iff_toInt_lt, i0] at hc; rw [if_neg hc, tI_neg (by omega) (by omega)]
theorem pNear_i {a b s : Int64} (ha : sm 1048576 a) (hb : sm 1048576 b) : (pNear a b s).toInt = iNear a.toInt b.toInt s.toInt := by
  unfold pNear iNear
  by_cases hc : 0 < s
  · rw [if_pos hc]; rw [Int64.lt_iff_toInt_lt, i0] at hc; rw [if_pos hc]
  · rw [if_neg hc]; rw [Int64.lt_iff_toInt_lt, i0] at hc; rw [if_neg hc, tI_neg (by have := hb.1; omega) (by have := hb.2; omega)]
theorem pFar_i {a b s : Int64} (ha : sm 1048576 a) (hb : sm 1048576 b) : (pFar a b s).toInt = iFar a.toInt b.toInt s.toInt := by
  unfold pFar iFar
  by_cases hc : 0 < s
  · rw [if_pos hc]; rw [Int64.lt_iff_toInt_lt, i0] at hc; rw [if_pos hc]
  · rw [if_neg hc]; rw [Int64.lt_iff_toInt_lt, i0] at hc; rw [if_neg hc, tI_neg (by have := ha.1; omega) (by have := ha.2; omega)]
/-- products of small numbers -/
theorem mulB {a b A B : Int} (h1 : -A ≤ a) (h2 : a ≤ A) (h3 : -B ≤ b) (h4 : b ≤ B) : -(A * B) ≤ a * b ∧ a * b ≤ A * B := by
  have g1 : 0 ≤ (A - a) * (B + b) := Int.mul_nonneg (by omega) (by omega)
  have g2 : 0 ≤ (A + a) * (B - b) := Int.mul_nonneg (by omega) (by omega)
  have g3 : 0 ≤ (A - a) * (B - b) := Int.mul_nonneg (by omega) (by omega)
  have g4 : 0 ≤ (A + a) * (B + b) := Int.mul_nonneg (by omega) (by omega)
  have e1 : (A - a) * (B + b) + (A + a) * (B - b) = 2 * (A * B) - 2 * (a * b) := by grind
  have e2 : (A - a) * (B - b) + (A + a) * (B + b) = 2 * (A * B) + 2 * (a * b) := by grind
  constructor <;> omega
theorem pr_b {a b : Int} (ha1 : -1048576 ≤ a) (ha2 : a ≤ 1048576) (hb1 : -1048576 ≤ b) (hb2 : b ≤ 1048576) : -1099511627776 ≤ a * b ∧ a * b ≤ 1099511627776 := mulB ha1 ha2 hb1 hb2
theorem pr_i {x y : Int64} (hx : sm 1048576 x) (hy : sm 1048576 y) : (x * y).toInt = x.toInt * y.toInt := by
  have := pr_b hx.1 hx.2 hy.1 hy.2
  exact tI_mul (by omega) (by omega)
theorem pr_lt {x y z w : Int64} (hx : sm 1048576 x) (hy : sm 1048576 y) (hz : sm 1048576 z) (hw : sm 1048576 w) : x * y < z * w ↔ x.toInt * y.toInt < z.toInt * w.toInt := by
  rw [Int64.lt_iff_toInt_lt, pr_i hx hy, pr_i hz hw]
theorem pr_le {x y z w : Int64} (hx : sm 1048576 x) (hy : sm 1048576 y) (hz : sm 1048576 z) (hw : sm 1048576 w) : x * y ≤ z * w ↔ x.toInt * y.toInt ≤ z.toInt * w.toInt := by
  rw [Int64.le_iff_toInt_le, pr_i hx hy, pr_i hz hw]
theorem z_iff {x : Int64} : x = 0 ↔ x.toInt = 0 := by rw [← Int64.toInt_inj, i0]
theorem sm_abs {x : Int64} (h : sm 1048576 x) : sm 1048576 (lAbs x) := by
  unfold sm; rw [lAbs_i h]; obtain ⟨h1, h2⟩ := h; unfold iAbs; split <;> omega
theorem sm_near {a b s : Int64} (ha : sm 1048576 a) (hb : sm 1048576 b) : sm 1048576 (pNear a b s) := by
  have a1 := ha.1; have a2 := ha.2; have b1 := hb.1; have b2 := hb.2
  unfold sm; rw [pNear_i ha hb]; unfold iNear; split <;> omega
theorem sm_far {a b s : Int64} (ha : sm 1048576 a) (hb : sm 1048576 b) : sm 1048576 (pFar a b s) := by
  have a1 := ha.1; have a2 := ha.2; have b1 := hb.1; have b2 := hb.2
  unfold sm; rw [pFar_i ha hb]; unfold iFar; split <;> omega
/-- the earlier end after an axis: its upper and lower part -/
def iNu (u l lw hg sp : Int) : Int := if sp = 0 then u else if u * iAbs sp < iNear lw hg sp * l then iNear lw hg sp else u
def iNl (u l lw hg sp : Int) : Int := if sp = 0 then l else if u * iAbs sp < iNear lw hg sp * l then iAbs sp else l
def iEu (u l lw hg sp : Int) : Int := if sp = 0 then u else if iFar lw hg sp * l < u * iAbs sp then iFar lw hg sp else u
def iEl (u l lw hg sp : Int) : Int := if sp = 0 then l else if iFar lw hg sp * l < u * iAbs sp then iAbs sp else l
theorem pNu_i {u l_ a b s : Int64} (hu : sm 1048576 u) (hl : sm 1048576 l_) (ha : sm 1048576 a) (hb : sm 1048576 b) (hs : sm 1048576 s) : (pNu u l_ a b s).toInt = iNu u.toInt l_.toInt a.toInt b.toInt s.toInt ∧ sm 1048576 (pNu u l_ a b s) ∧ (pNl u l_ a b s).toInt = iNl u.toInt l_.toInt a.toInt b.toInt s.toInt ∧ sm 1048576 (pNl u l_ a b s) := by
  unfold pNu pNl iNu iNl
  rw [← lAbs_i hs, ← pNear_i ha hb]
  by_cases h0 : s = 0
  · rw [if_pos h0, if_pos h0, if_pos (z_iff.mp h0), if_pos (z_iff.mp h0)]; exact ⟨rfl, hu, rfl, hl⟩
  · rw [if_neg h0, if_neg h0, if_neg (fun z => h0 (z_iff.mpr z)), if_neg (fun z => h0 (z_iff.mpr z))]
    have hc := pr_lt hu (sm_abs hs) (sm_near (s := s) ha hb) hl
    by_cases h1 : u * lAbs s < pNear a b s * l_
    · rw [if_pos h1, if_pos h1, if_pos (hc.mp h1), if_pos (hc.mp h1)]; exact ⟨rfl, sm_near ha hb, rfl, sm_abs hs⟩
    · rw [if_neg h1, if_neg h1, if_neg (fun z => h1 (hc.mpr z)), if_neg (fun z => h1 (hc.mpr z))]; exact ⟨rfl, hu, rfl, hl⟩
theorem pNe_i {u l_ a b s : Int64} (hu : sm 1048576 u) (hl : sm 1048576 l_) (ha : sm 1048576 a) (hb : sm 1048576 b) (hs : sm 1048576 s) : (pNeu u l_ a b s).toInt = iEu u.toInt l_.toInt a.toInt b.toInt s.toInt ∧ sm 1048576 (pNeu u l_ a b s) ∧ (pNel u l_ a b s).toInt = iEl u.toInt l_.toInt a.toInt b.toInt s.toInt ∧ sm 1048576 (pNel u l_ a b s) := by
  unfold pNeu pNel iEu iEl
  rw [← lAbs_i hs, ← pFar_i ha hb]
  by_cases h0 : s = 0
  · rw [if_pos h0, if_pos h0, if_pos (z_iff.mp h0), if_pos (z_iff.mp h0)]; exact ⟨rfl, hu, rfl, hl⟩
  · rw [if_neg h0, if_neg h0, if_neg (fun z => h0 (z_iff.mpr z)), if_neg (fun z => h0 (z_iff.mpr z))]
    have hc := pr_lt (sm_far (s := s) ha hb) hl hu (sm_abs hs)
    by_cases h1 : pFar a b s * l_ < u * lAbs s
    · rw [if_pos h1, if_pos h1, if_pos (hc.mp h1), if_pos (hc.mp h1)]; exact ⟨rfl, sm_far ha hb, rfl, sm_abs hs⟩
    · rw [if_neg h1, if_neg h1, if_neg (fun z => h1 (hc.mpr z)), if_neg (fun z => h1 (hc.mpr z))]; exact ⟨rfl, hu, rfl, hl⟩
