/-! the way to the right and the way back -/
theorem low_run {ox oy fx fy : Nat → Int64} {N : Nat} (hb : ∀ i, i < N → s2 (ox i) (oy i)) (hs : ∀ i j, i < j → j < N → lx (pt ox oy i) (pt ox oy j)) : ∀ k, 1 ≤ k → k ≤ N → Ch (pt ox oy) k (pt (pLow ox oy fx fy k).1 (pLow ox oy fx fy k).2.1) (pLow ox oy fx fy k).2.2 ∧ (pLow ox oy fx fy k).2.2 ≤ k ∧ (∀ i, i < (pLow ox oy fx fy k).2.2 → s2 ((pLow ox oy fx fy k).1 i) ((pLow ox oy fx fy k).2.1 i))
  | 0, h, _ => by omega
  | 1, _, h1 => by
    have e : pLow ox oy fx fy 1 = (vp_updL fx 0 (ox 0), vp_updL fy 0 (oy 0), 1) := rfl
    rw [e]
    refine ⟨Ch.one ?_, Nat.le_refl _, ?_⟩
    · show pt (vp_updL fx 0 (ox 0)) (vp_updL fy 0 (oy 0)) 0 = pt ox oy 0
      unfold pt vp_updL; rw [if_pos rfl, if_pos rfl]
    · intro i hi
      have hi : i < 1 := hi
      show s2 (vp_updL fx 0 (ox 0) i) (vp_updL fy 0 (oy 0) i)
      unfold vp_updL; rw [if_pos (by omega), if_pos (by omega)]; exact hb 0 (by omega)
  | k + 2, _, h1 => by
    obtain ⟨ih, ih2, ih3⟩ := low_run (fx := fx) (fy := fy) hb hs (k + 1) (by omega) (by omega)
    have e : pLow ox oy fx fy (k + 2) = pApp (0 + 1) ((pLow ox oy fx fy (k + 1)).1, (pLow ox oy fx fy (k + 1)).2.1, (pLow ox oy fx fy (k + 1)).2.2) (ox (k + 1)) (oy (k + 1)) := rfl
    have hp := ih.pos
    have st := app_step (σ := fun a => a) (fun a b d => rfl) (b := 0) (t := (pLow ox oy fx fy (k + 1)).2.2) (gx := (pLow ox oy fx fy (k + 1)).1) (gy := (pLow ox oy fx fy (k + 1)).2.1) (x := ox (k + 1)) (y := oy (k + 1)) (k := k + 1) (o := pt ox oy) (by simp only [Nat.zero_add]; exact ih) (by omega) (fun i j a b => hs i j a (by omega)) (by omega) rfl ih3 (hb (k + 1) (by omega))
    rw [e]
    simp only [Nat.zero_add, Nat.sub_zero] at st ⊢
    exact ⟨st.1, by omega, st.2.2.2.1⟩
theorem upp_run {ox oy : Nat → Int64} {N : Nat} (hb : ∀ i, i < N → s2 (ox i) (oy i)) (hs : ∀ i j, i < j → j < N → lx (pt ox oy i) (pt ox oy j)) {m : Nat} : ∀ (j : Nat) (gx gy : Nat → Int64) (t : Nat), j + 1 ≤ N → m + 1 ≤ t → Ch (fun r => ng (pt ox oy (N - 1 - r))) (N - j) (fun i => ng (pt gx gy (m + i))) (t - m) → (∀ i, i < t → s2 (gx i) (gy i)) →
    Ch (fun r => ng (pt ox oy (N - 1 - r))) N (fun i => ng (pt (pUpp ox oy (m + 1) j (gx, gy, t)).1 (pUpp ox oy (m + 1) j (gx, gy, t)).2.1 (m + i))) ((pUpp ox oy (m + 1) j (gx, gy, t)).2.2 - m) ∧ m + 1 ≤ (pUpp ox oy (m + 1) j (gx, gy, t)).2.2 ∧ (pUpp ox oy (m + 1) j (gx, gy, t)).2.2 ≤ t + j ∧ (∀ i, i < (pUpp ox oy (m + 1) j (gx, gy, t)).2.2 → s2 ((pUpp ox oy (m + 1) j (gx, gy, t)).1 i) ((pUpp ox oy (m + 1) j (gx, gy, t)).2.1 i)) ∧ (∀ i, i ≤ m → pt (pUpp ox oy (m + 1) j (gx, gy, t)).1 (pUpp ox oy (m + 1) j (gx, gy, t)).2.1 i = pt gx gy i)
  | 0, gx, gy, t, hj, hm, hc, hg => by
    rw [pUpp]
    exact ⟨hc, hm, Nat.le_refl _, hg, fun i _ => rfl⟩
  | j + 1, gx, gy, t, hj, hm, hc, hg => by
    have e : pUpp ox oy (m + 1) (j + 1) (gx, gy, t) = pUpp ox oy (m + 1) j (pApp (m + 1) (gx, gy, t) (ox j) (oy j)) := rfl
    have st := app_step (σ := ng) crs_ng (b := m) (t := t) (gx := gx) (gy := gy) (x := ox j) (y := oy j) (k := N - (j + 1)) (o := fun r => ng (pt ox oy (N - 1 - r))) hc (by omega) (fun p q a b => lx_ng (hs _ _ (by omega) (by omega))) hm (by show ng (pt ox oy (N - 1 - (N - (j + 1)))) = ng (ptL (ox j) (oy j)); rw [show N - 1 - (N - (j + 1)) = j by omega]; rfl) hg (hb j (by omega))
    rw [e]
    obtain ⟨s1, s2', s3, s4, s5⟩ := st
    rw [show N - (j + 1) + 1 = N - j by omega] at s1
    have r := upp_run hb hs j (pApp (m + 1) (gx, gy, t) (ox j) (oy j)).1 (pApp (m + 1) (gx, gy, t) (ox j) (oy j)).2.1 (pApp (m + 1) (gx, gy, t) (ox j) (oy j)).2.2 (by omega) (by omega) s1 s4
    obtain ⟨r1, r2, r3, r4, r5⟩ := r
    exact ⟨r1, r2, Nat.le_trans r3 (by omega), r4, fun i hi => (r5 i hi).trans (s5 i hi)⟩
/-- the class's corners are a polygon of its outer points -/
theorem co_poly {ox oy fx fy : Nat → Int64} {N : Nat} (hN : 1 ≤ N) (hb : ∀ i, i < N → s2 (ox i) (oy i)) (hs : ∀ i j, i < j → j < N → lx (pt ox oy i) (pt ox oy j)) :
    Poly (fun s => ∃ j, j < N ∧ s = pt ox oy j) (pt (pCo ox oy fx fy N).1 (pCo ox oy fx fy N).2.1) (if 1 < N then (pCo ox oy fx fy N).2.2 - 1 else (pCo ox oy fx fy N).2.2) ∧ (pCo ox oy fx fy N).2.2 ≤ 2 * N ∧ (∀ i, i < (pCo ox oy fx fy N).2.2 → s2 ((pCo ox oy fx fy N).1 i) ((pCo ox oy fx fy N).2.1 i)) := by
  obtain ⟨l1, l2, l3⟩ := low_run (fx := fx) (fy := fy) hb hs N hN (Nat.le_refl _)
  have hp := l1.pos
  obtain ⟨m, hm⟩ : ∃ m, (pLow ox oy fx fy N).2.2 = m + 1 := ⟨(pLow ox oy fx fy N).2.2 - 1, by omega⟩
  have ec : pCo ox oy fx fy N = pUpp ox oy (m + 1) (N - 1) ((pLow ox oy fx fy N).1, (pLow ox oy fx fy N).2.1, m + 1) := by unfold pCo; rw [hm, ← hm]
  rw [hm] at l1 l2 l3
  have u := upp_run hb hs (m := m) (N - 1) (pLow ox oy fx fy N).1 (pLow ox oy fx fy N).2.1 (m + 1) (by omega) (Nat.le_refl _) (by
    rw [show N - (N - 1) = 1 by omega, show m + 1 - m = 1 by omega]
    refine Ch.one ?_
    show ng (pt (pLow ox oy fx fy N).1 (pLow ox oy fx fy N).2.1 (m + 0)) = ng (pt ox oy (N - 1 - 0))
    have := l1.lst
    rw [Nat.add_sub_cancel] at this
    rw [Nat.add_zero, this, Nat.sub_zero]) l3
  rw [ec]
  generalize hq : pUpp ox oy (m + 1) (N - 1) ((pLow ox oy fx fy N).1, (pLow ox oy fx fy N).2.1, m + 1) = q at *
  obtain ⟨u1, u2, u3, u4, u5⟩ := u
  obtain ⟨p, hpp⟩ : ∃ p, q.2.2 - m = p + 1 := ⟨q.2.2 - m - 1, by omega⟩
  rw [hpp] at u1
  have P := Poly.of (c := pt q.1 q.2.1) hN hs l1 u1 (fun i hi => u5 i hi) (fun i a b => (ng_ng _).symm)
  refine ⟨?_, by omega, u4⟩
  by_cases h1 : 1 < N
  · rw [if_pos h1] at P ⊢
    rw [show q.2.2 - 1 = m + p by omega]; exact P
  · rw [if_neg h1] at P ⊢
    have : q.2.2 = 1 := by omega
    rw [this]; exact P
/-! a point put among the outer ones -/
theorem lxI {x y u v : Int64} : lx (ptL x y) (ptL u v) ↔ (x < u ∨ (u = x ∧ y < v)) := by
  unfold lx ptL
  rw [Int64.lt_iff_toInt_lt, Int64.lt_iff_toInt_lt, ← Int64.toInt_inj]
  exact ⟨fun h => h.elim Or.inl (fun z => Or.inr ⟨z.1.symm, z.2⟩), fun h => h.elim Or.inl (fun z => Or.inr ⟨z.1.symm, z.2⟩)⟩
theorem pIns_pos : ∀ (q : Nat) (gx gy : Nat → Int64) (x y : Int64), ∃ m, m ≤ q ∧ (∀ j, j < m → pInsX q gx gy x y j = gx j ∧ pInsY q gx gy x y j = gy j) ∧ (pInsX q gx gy x y m = x ∧ pInsY q gx gy x y m = y) ∧ (∀ j, m ≤ j → j < q → pInsX q gx gy x y (j + 1) = gx j ∧ pInsY q gx gy x y (j + 1) = gy j ∧ lx (ptL x y) (pt gx gy j)) ∧ (0 < m → ¬ lx (ptL x y) (pt gx gy (m - 1))) ∧ (∀ j, q < j → pInsX q gx gy x y j = gx j ∧ pInsY q gx gy x y j = gy j)
  | 0, gx, gy, x, y => by
    refine ⟨0, Nat.le_refl _, fun j h => by omega, ?_, fun j a b => by omega, fun h => by omega, fun j hj => ?_⟩
    · rw [pInsX, pInsY]; unfold vp_updL; rw [if_pos rfl, if_pos rfl]; exact ⟨rfl, rfl⟩
    · rw [pInsX, pInsY]; unfold vp_updL; rw [if_neg (by omega), if_neg (by omega)]; exact ⟨rfl, rfl⟩
  | q + 1, gx, gy, x, y => by
    by_cases h : x < gx q ∨ (gx q = x ∧ y < gy q)
    · rw [pInsX, pInsY, if_pos h, if_pos h]
      obtain ⟨m, h1, h2, h3, h4, h5, h6⟩ := pIns_pos q (vp_updL gx (q + 1) (gx q)) (vp_updL gy (q + 1) (gy q)) x y
      have ex : ∀ j, j ≤ q → vp_updL gx (q + 1) (gx q) j = gx j := fun j hj => by unfold vp_updL; rw [if_neg (by omega)]
      have ey : ∀ j, j ≤ q → vp_updL gy (q + 1) (gy q) j = gy j := fun j hj => by unfold vp_updL; rw [if_neg (by omega)]
      have ep : ∀ j, j ≤ q → pt (vp_updL gx (q + 1) (gx q)) (vp_updL gy (q + 1) (gy q)) j = pt gx gy j := fun j hj => by unfold pt; rw [ex j hj, ey j hj]
      refine ⟨m, by omega, fun j hj => ?_, h3, fun j a b => ?_, fun h => ?_, fun j hj => ?_⟩
      · have := h2 j hj; rw [ex j (by omega), ey j (by omega)] at this; exact this
      · by_cases e : j = q
        · subst e
          have := h6 (j + 1) (by omega)
          refine ⟨?_, ?_, lxI.mpr h⟩
          · rw [this.1]; unfold vp_updL; rw [if_pos rfl]
          · rw [this.2]; unfold vp_updL; rw [if_pos rfl]
        · have := h4 j a (by omega)
          rw [ex j (by omega), ey j (by omega), ep j (by omega)] at this; exact this
      · have := h5 h; rw [ep _ (by omega)] at this; exact this
      · have := h6 j (by omega)
        rw [this.1, this.2]; unfold vp_updL; rw [if_neg (by omega), if_neg (by omega)]; exact ⟨rfl, rfl⟩
    · rw [pInsX, pInsY, if_neg h, if_neg h]
      refine ⟨q + 1, Nat.le_refl _, fun j hj => ?_, ?_, fun j a b => by omega, fun _ z => h (lxI.mp z), fun j hj => ?_⟩
      · unfold vp_updL; rw [if_neg (by omega), if_neg (by omega)]; exact ⟨rfl, rfl⟩
      · unfold vp_updL; rw [if_pos rfl, if_pos rfl]; exact ⟨rfl, rfl⟩
      · unfold vp_updL; rw [if_neg (by omega), if_neg (by omega)]; exact ⟨rfl, rfl⟩
theorem pIns_ok {on : Nat} {ox oy : Nat → Int64} {x y : Int64} (hb : ∀ i, i < on → s2 (ox i) (oy i)) (hs : ∀ i j, i < j → j < on → lx (pt ox oy i) (pt ox oy j)) (hx : s2 x y) (hn : ∀ i, i < on → ¬ pt ox oy i = ptL x y) :
    (∀ i, i < on + 1 → s2 (pInsX on ox oy x y i) (pInsY on ox oy x y i)) ∧ (∀ i j, i < j → j < on + 1 → lx (pt (pInsX on ox oy x y) (pInsY on ox oy x y) i) (pt (pInsX on ox oy x y) (pInsY on ox oy x y) j)) ∧ (∀ s, (∃ j, j < on + 1 ∧ s = pt (pInsX on ox oy x y) (pInsY on ox oy x y) j) ↔ ((∃ j, j < on ∧ s = pt ox oy j) ∨ s = ptL x y)) := by
  obtain ⟨m, h1, h2, h3, h4, h5, _⟩ := pIns_pos on ox oy x y
  generalize pInsX on ox oy x y = X at *
  generalize pInsY on ox oy x y = Y at *
  have a1 : ∀ j, j < m → pt X Y j = pt ox oy j := fun j hj => by unfold pt; rw [(h2 j hj).1, (h2 j hj).2]
  have a2 : pt X Y m = ptL x y := by unfold pt ptL; rw [h3.1, h3.2]
  have a3 : ∀ j, m ≤ j → j < on → pt X Y (j + 1) = pt ox oy j := fun j u v => by unfold pt; rw [(h4 j u v).1, (h4 j u v).2.1]
  have below : ∀ j, j < m → lx (pt ox oy j) (ptL x y) := by
    intro j hj
    have hl : lx (pt ox oy (m - 1)) (ptL x y) := by
      rcases lx_tri (pt ox oy (m - 1)) (ptL x y) with z | z | z
      · exact z
      · exact (hn (m - 1) (by omega) z).elim
      · exact (h5 (by omega) z).elim
    by_cases e : j = m - 1
    · rw [e]; exact hl
    · exact lx_tr (hs j (m - 1) (by omega) (by omega)) hl
  refine ⟨fun i hi => ?_, fun i j hij hj => ?_, fun s => ⟨?_, ?_⟩⟩
  · by_cases c1 : i < m
    · rw [(h2 i c1).1, (h2 i c1).2]; exact hb i (by omega)
    · by_cases c2 : i = m
      · rw [c2, h3.1, h3.2]; exact hx
      · have := h4 (i - 1) (by omega) (by omega)
        rw [show i - 1 + 1 = i by omega] at this
        rw [this.1, this.2.1]; exact hb (i - 1) (by omega)
  · by_cases c1 : j < m
    · rw [a1 i (by omega), a1 j c1]; exact hs i j hij (by omega)
    · by_cases c2 : j = m
      · rw [c2, a2, a1 i (by omega)]; exact below i (by omega)
      · have ej := a3 (j - 1) (by omega) (by omega)
        rw [show j - 1 + 1 = j by omega] at ej
        rw [ej]
        by_cases c3 : i < m
        · rw [a1 i c3]; exact hs i (j - 1) (by omega) (by omega)
        · by_cases c4 : i = m
          · rw [c4, a2]; exact (h4 (j - 1) (by omega) (by omega)).2.2
          · have ei := a3 (i - 1) (by omega) (by omega)
            rw [show i - 1 + 1 = i by omega] at ei
            rw [ei]; exact hs (i - 1) (j - 1) (by omega) (by omega)
  · rintro ⟨j, hj, rfl⟩
    by_cases c1 : j < m
    · exact Or.inl ⟨j, by omega, a1 j c1⟩
    · by_cases c2 : j = m
      · rw [c2]; exact Or.inr a2
      · refine Or.inl ⟨j - 1, by omega, ?_⟩
        have := a3 (j - 1) (by omega) (by omega)
        rwa [show j - 1 + 1 = j by omega] at this
  · rintro (⟨j, hj, rfl⟩ | rfl)
    · by_cases c1 : j < m
      · exact ⟨j, by omega, (a1 j c1).symm⟩
      · exact ⟨j + 1, by omega, (a3 j (by omega) hj).symm⟩
    · exact ⟨m, by omega, a2.symm⟩
