/-! the plane over whole numbers: turns, ways that turn left -/
abbrev Pt := Int × Int
def crs (a b d : Pt) : Int := (b.1 - a.1) * (d.2 - a.2) - (b.2 - a.2) * (d.1 - a.1)
def lx (a b : Pt) : Prop := a.1 < b.1 ∨ (a.1 = b.1 ∧ a.2 < b.2)
def ng (a : Pt) : Pt := (-a.1, -a.2)
def lpv (a b : Int) : Prop := 0 < a ∨ (a = 0 ∧ 0 < b)
theorem nn_of {k x : Int} (hk : 0 < k) (h : 0 ≤ k * x) : 0 ≤ x := by
  by_cases hx : 0 ≤ x
  · exact hx
  · have := Int.mul_pos hk (show 0 < -x by omega); rw [Int.mul_neg] at this; omega
theorem ps_of {k x : Int} (hk : 0 < k) (h : 0 < k * x) : 0 < x := by
  by_cases hx : 0 < x
  · exact hx
  · have := Int.mul_nonneg (show 0 ≤ k by omega) (show 0 ≤ -x by omega); rw [Int.mul_neg] at this; omega
/-- turns of vectors that go to the right -/
theorem lp_tr {a b d e f g : Int} (hu : lpv a b) (hv : lpv d e) (hw : lpv f g) (h1 : 0 ≤ a * e - b * d) (h2 : 0 ≤ d * g - e * f) : 0 ≤ a * g - b * f := by
  unfold lpv at *
  rcases hv with hv | ⟨hd, hv⟩
  · have i1 := Int.mul_nonneg (show 0 ≤ a by omega) h2
    have i2 := Int.mul_nonneg (show 0 ≤ f by omega) h1
    have e1 : d * (a * g - b * f) = a * (d * g - e * f) + f * (a * e - b * d) := by grind
    exact nn_of hv (by omega)
  · subst hd
    have hf : f ≤ 0 := by
      by_cases hf : f ≤ 0
      · exact hf
      · have := Int.mul_pos hv (show 0 < f by omega); omega
    have hf0 : f = 0 := by omega
    subst hf0
    have := Int.mul_nonneg (show 0 ≤ a by omega) (show 0 ≤ g by omega)
    omega
theorem lp_ts {a b d e f g : Int} (hu : lpv a b) (hv : lpv d e) (hw : lpv f g) (h1 : 0 < a * e - b * d) (h2 : 0 < d * g - e * f) : 0 < a * g - b * f := by
  unfold lpv at *
  rcases hv with hv | ⟨hd, hv⟩
  · have ha : 0 < a := by
      rcases hu with hu | ⟨ha, hb⟩
      · exact hu
      · subst ha; have := Int.mul_pos hb hv; omega
    have i1 := Int.mul_pos ha h2
    have i2 := Int.mul_nonneg (show 0 ≤ f by omega) (show 0 ≤ a * e - b * d by omega)
    have e1 : d * (a * g - b * f) = a * (d * g - e * f) + f * (a * e - b * d) := by grind
    exact ps_of hv (by omega)
  · subst hd
    by_cases hf : 0 ≤ f
    · have := Int.mul_nonneg (show 0 ≤ e by omega) hf; omega
    · omega
/-- vectors of one direction see a third on one side -/
theorem par_nn {a b d e f g : Int} (hu : lpv a b) (hv : lpv d e) (h0 : a * e - b * d = 0) (h : 0 ≤ a * g - b * f) : 0 ≤ d * g - e * f := by
  unfold lpv at *
  rcases hu with hu | ⟨ha, hb⟩
  · have i := Int.mul_nonneg (show 0 ≤ d by omega) h
    have e1 : a * (d * g - e * f) = d * (a * g - b * f) + (-f) * (a * e - b * d) := by grind
    rw [h0, Int.mul_zero] at e1
    exact nn_of hu (by omega)
  · subst ha
    have hd : d = 0 := by
      rcases hv with hv | hv
      · have := Int.mul_pos hb hv; omega
      · exact hv.1
    subst hd
    have hf : f ≤ 0 := by
      by_cases hf : f ≤ 0
      · exact hf
      · have := Int.mul_pos hb (show 0 < f by omega); omega
    have := Int.mul_nonneg (show 0 ≤ e by omega) (show 0 ≤ -f by omega)
    rw [Int.mul_neg] at this
    omega
theorem lx_lp {a b : Pt} (h : lx a b) : lpv (b.1 - a.1) (b.2 - a.2) := by unfold lx at h; unfold lpv; omega
theorem lx_irr {a : Pt} (h : lx a a) : False := by unfold lx at h; omega
theorem lx_asy {a b : Pt} (h : lx a b) (h' : lx b a) : False := by unfold lx at *; omega
theorem lx_tr {a b d : Pt} (h : lx a b) (h' : lx b d) : lx a d := by unfold lx at *; omega
theorem lx_tri (a b : Pt) : lx a b ∨ a = b ∨ lx b a := by
  unfold lx
  by_cases h1 : a.1 = b.1
  · by_cases h2 : a.2 = b.2
    · exact Or.inr (Or.inl (Prod.ext h1 h2))
    · omega
  · omega
theorem lx_ng {a b : Pt} (h : lx a b) : lx (ng b) (ng a) := by unfold lx ng at *; simp only; omega
theorem ng_ng (a : Pt) : ng (ng a) = a := by unfold ng; simp
theorem crs_ng (a b d : Pt) : crs (ng a) (ng b) (ng d) = crs a b d := by unfold crs ng; simp only; grind
theorem crs_cy (a b d : Pt) : crs a b d = crs b d a := by unfold crs; grind
theorem crs_sw (a b d : Pt) : crs a b d = -crs b a d := by unfold crs; grind
theorem crs_ab (a b : Pt) : crs a b a = 0 := by unfold crs; grind
theorem crs_bb (a b : Pt) : crs a b b = 0 := by unfold crs; grind
theorem crs_m (a b d : Pt) : crs a b d = (b.1 - a.1) * (d.2 - b.2) - (b.2 - a.2) * (d.1 - b.1) := by unfold crs; grind
theorem way_A {a b d p : Pt} (h1 : lx a b) (h2 : lx b d) (h3 : lx b p) (c1 : 0 ≤ crs a b d) (c2 : 0 ≤ crs b d p) : 0 ≤ crs a b p := by
  rw [crs_m] at c1 ⊢
  exact lp_tr (lx_lp h1) (lx_lp h2) (lx_lp h3) c1 c2
theorem way_B {a e p o : Pt} (h1 : lx a e) (h2 : lx a p) (h3 : lx a o) (c1 : crs a e p ≤ 0) (c2 : 0 ≤ crs a e o) : 0 ≤ crs a p o :=
  lp_tr (lx_lp h2) (lx_lp h1) (lx_lp h3) (by have e1 : (p.1 - a.1) * (e.2 - a.2) - (p.2 - a.2) * (e.1 - a.1) = -crs a e p := by unfold crs; grind
                                             omega) c2
theorem way_C {a b p o : Pt} (h1 : lx o a) (h2 : lx b a) (h3 : lx a p) (c1 : 0 ≤ crs b a o) (c2 : 0 ≤ crs b a p) : 0 ≤ crs a p o := by
  have h := lp_tr (lx_lp h1) (lx_lp h2) (lx_lp h3) (by have e1 : (a.1 - o.1) * (a.2 - b.2) - (a.2 - o.2) * (a.1 - b.1) = crs b a o := by unfold crs; grind
                                                       omega) (by rw [crs_m] at c2; exact c2)
  have e2 : crs a p o = (a.1 - o.1) * (p.2 - a.2) - (a.2 - o.2) * (p.1 - a.1) := by unfold crs; grind
  omega
/-- a way over the first k points that turns left: all lie left of it -/
abbrev Ch (o : Nat → Pt) (k : Nat) (g : Nat → Pt) (t : Nat) : Prop := (1 ≤ t) ∧ (g 0 = o 0) ∧ (g (t - 1) = o (k - 1)) ∧ (∀ i, i < t → ∃ j, j < k ∧ g i = o j) ∧ (∀ i, i + 1 < t → lx (g i) (g (i + 1))) ∧ (∀ i, i + 2 < t → 0 < crs (g i) (g (i + 1)) (g (i + 2))) ∧ (∀ i j, i + 1 < t → j < k → 0 ≤ crs (g i) (g (i + 1)) (o j))
theorem Ch.pos {o : Nat → Pt} {k : Nat} {g : Nat → Pt} {t : Nat} (h : Ch o k g t) : 1 ≤ t := h.1
theorem Ch.fst {o : Nat → Pt} {k : Nat} {g : Nat → Pt} {t : Nat} (h : Ch o k g t) : g 0 = o 0 := h.2.1
theorem Ch.lst {o : Nat → Pt} {k : Nat} {g : Nat → Pt} {t : Nat} (h : Ch o k g t) : g (t - 1) = o (k - 1) := h.2.2.1
theorem Ch.mem {o : Nat → Pt} {k : Nat} {g : Nat → Pt} {t : Nat} (h : Ch o k g t) : ∀ i, i < t → ∃ j, j < k ∧ g i = o j := h.2.2.2.1
theorem Ch.inc {o : Nat → Pt} {k : Nat} {g : Nat → Pt} {t : Nat} (h : Ch o k g t) : ∀ i, i + 1 < t → lx (g i) (g (i + 1)) := h.2.2.2.2.1
theorem Ch.str {o : Nat → Pt} {k : Nat} {g : Nat → Pt} {t : Nat} (h : Ch o k g t) : ∀ i, i + 2 < t → 0 < crs (g i) (g (i + 1)) (g (i + 2)) := h.2.2.2.2.2.1
theorem Ch.lft {o : Nat → Pt} {k : Nat} {g : Nat → Pt} {t : Nat} (h : Ch o k g t) : ∀ i j, i + 1 < t → j < k → 0 ≤ crs (g i) (g (i + 1)) (o j) := h.2.2.2.2.2.2
theorem Ch.one {o g : Nat → Pt} (h : g 0 = o 0) : Ch o 1 g 1 :=
  ⟨Nat.le_refl _, h, h, fun i hi => ⟨0, by omega, by rw [show i = 0 by omega]; exact h⟩, fun i hi => by omega, fun i hi => by omega, fun i j hi => by omega⟩
theorem Ch.step {o g g' : Nat → Pt} {k t s : Nat} (h : Ch o k g t) (hk : 1 ≤ k) (hs : ∀ i j, i < j → j < k + 1 → lx (o i) (o j)) (h2 : s + 1 ≤ t) (h3 : s = 0 ∨ 0 < crs (g (s - 1)) (g s) (o k)) (h4 : s + 1 < t → crs (g s) (g (s + 1)) (o k) ≤ 0) (e1 : ∀ i, i ≤ s → g' i = g i) (e2 : g' (s + 1) = o k) : Ch o (k + 1) g' (s + 2) := by
  have hlt : ∀ i, i < t → lx (g i) (o k) := by
    intro i hi
    obtain ⟨j, hj, e⟩ := h.mem i hi
    rw [e]; exact hs j k hj (by omega)
  have down : ∀ d i, i + 1 + d = s → 0 ≤ crs (g i) (g (i + 1)) (o k) := by
    intro d
    induction d with
    | zero =>
      intro i hi
      rcases h3 with h3 | h3
      · omega
      · rw [show s - 1 = i by omega, show s = i + 1 by omega] at h3; omega
    | succ d ih =>
      intro i hi
      have a1 := ih (i + 1) (by omega)
      have a2 := h.str i (by omega)
      exact way_A (h.inc i (by omega)) (h.inc (i + 1) (by omega)) (hlt (i + 1) (by omega)) (Int.le_of_lt a2) a1
  have old : ∀ j, j < k → 0 ≤ crs (g s) (o k) (o j) := by
    intro j hj
    obtain ⟨ja, hja, ea⟩ := h.mem s (by omega)
    have hja' : s + 1 = t → g s = o (k - 1) := fun q => by have := h.lst; rwa [show t - 1 = s by omega] at this
    rcases lx_tri (g s) (o j) with q | q | q
    · have ht : s + 1 < t := by
        by_cases c : s + 1 = t
        · exfalso
          rw [hja' c] at q
          by_cases cj : j = k - 1
          · rw [cj] at q; exact lx_irr q
          · exact lx_asy q (hs j (k - 1) (by omega) (by omega))
        · omega
      exact way_B (h.inc s ht) (hlt s (by omega)) q (h4 ht) (h.lft s j ht hj)
    · rw [q, crs_ab]; exact Int.le_refl 0
    · have h0 : 1 ≤ s := by
        by_cases c : s = 0
        · exfalso
          rw [c, h.fst] at q
          by_cases cj : j = 0
          · rw [cj] at q; exact lx_irr q
          · exact lx_asy q (hs 0 j (by omega) (by omega))
        · omega
      have b1 := h.inc (s - 1) (by omega)
      have b2 := h.lft (s - 1) j (by omega) hj
      rw [show s - 1 + 1 = s by omega] at b1 b2
      rcases h3 with h3 | h3
      · omega
      · exact way_C q b1 (hlt s (by omega)) b2 (by omega)
  refine ⟨by omega, ?_, ?_, ?_, ?_, ?_, ?_⟩
  · rw [e1 0 (by omega)]; exact h.fst
  · rw [show s + 2 - 1 = s + 1 by omega, e2]; rfl
  · intro i hi
    by_cases c : i = s + 1
    · exact ⟨k, by omega, by rw [c]; exact e2⟩
    · obtain ⟨j, hj, e⟩ := h.mem i (by omega)
      exact ⟨j, by omega, by rw [e1 i (by omega)]; exact e⟩
  · intro i hi
    by_cases c : i = s
    · subst c; rw [e1 i (by omega), e2]; exact hlt i (by omega)
    · rw [e1 i (by omega), e1 (i + 1) (by omega)]; exact h.inc i (by omega)
  · intro i hi
    by_cases c : i + 1 = s
    · rw [show i + 2 = s + 1 by omega, e2, e1 i (by omega), e1 (i + 1) (by omega)]
      rcases h3 with h3 | h3
      · omega
      · rw [show s - 1 = i by omega, show s = i + 1 by omega] at h3; exact h3
    · rw [e1 i (by omega), e1 (i + 1) (by omega), e1 (i + 2) (by omega)]; exact h.str i (by omega)
  · intro i j hi hj
    by_cases c : i = s
    · subst c
      rw [e1 i (by omega), e2]
      by_cases cj : j = k
      · rw [cj, crs_bb]; exact Int.le_refl 0
      · exact old j (by omega)
    · rw [e1 i (by omega), e1 (i + 1) (by omega)]
      by_cases cj : j = k
      · rw [cj]; exact down (s - (i + 1)) i (by omega)
      · exact h.lft i j (by omega) (by omega)
theorem pop_ex (g : Nat → Pt) (p : Pt) : ∀ t, 1 ≤ t → ∃ s, s + 1 ≤ t ∧ (s = 0 ∨ 0 < crs (g (s - 1)) (g s) p) ∧ (s + 1 < t → crs (g s) (g (s + 1)) p ≤ 0)
  | 0, h => by omega
  | 1, _ => ⟨0, by omega, Or.inl rfl, fun h => by omega⟩
  | r + 2, _ => by
    by_cases c : 0 < crs (g r) (g (r + 1)) p
    · exact ⟨r + 1, by omega, Or.inr c, fun h => by omega⟩
    · obtain ⟨s, h1, h2, h3⟩ := pop_ex g p (r + 1) (by omega)
      refine ⟨s, by omega, h2, fun h => ?_⟩
      by_cases e : s = r
      · rw [e]; omega
      · exact h3 (by omega)
theorem Ch.ex {o : Nat → Pt} : ∀ N, 1 ≤ N → (∀ i j, i < j → j < N → lx (o i) (o j)) → ∃ g t, Ch o N g t
  | 0, h, _ => by omega
  | 1, _, _ => ⟨o, 1, Ch.one rfl⟩
  | N + 2, _, hs => by
    obtain ⟨g, t, h⟩ := Ch.ex (o := o) (N + 1) (by omega) (fun i j a b => hs i j a (by omega))
    obtain ⟨s, h1, h2, h3⟩ := pop_ex g (o (N + 1)) t h.pos
    exact ⟨va_up g (s + 1) (o (N + 1)), s + 2, h.step (by omega) hs h1 h2 h3 (fun i hi => va_up_ne _ _ (by omega)) (va_up_self _ _ _)⟩
theorem Ch.inc_all {o g : Nat → Pt} {k t : Nat} (h : Ch o k g t) : ∀ d i, i + 1 + d < t → lx (g i) (g (i + 1 + d))
  | 0, i, hi => h.inc i hi
  | d + 1, i, hi => lx_tr (h.inc_all d i (by omega)) (h.inc (i + 1 + d) hi)
