/-! the class's tests, in whole numbers -/
theorem lMax_i (x y : Int64) : (lMax x y).toInt = max x.toInt y.toInt := by
  unfold lMax
  by_cases h : y < x
  · rw [if_pos h]; have := Int64.lt_iff_toInt_lt.mp h; omega
  · rw [if_neg h]
    have : ¬ y.toInt < x.toInt := fun z => h (Int64.lt_iff_toInt_lt.mpr z)
    omega
def vF (fx fy : Nat → Int64) (dx dy : Int64) (j : Nat) : Int := (fx j).toInt * dx.toInt + (fy j).toInt * dy.toInt
theorem vF_dt (fx fy : Nat → Int64) (dx dy : Int64) (j : Nat) : vF fx fy dx dy j = dt (ptL dx dy) (pt fx fy j) := by unfold vF dt ptL pt; simp only; rw [Int.mul_comm, Int.mul_comm (fy j).toInt]
theorem w20 {x : Int64} (h : sm 10000 x) : sm 20000 x := sm_mono h (by omega)
theorem pF_i {fx fy : Nat → Int64} {dx dy : Int64} (hx : sm 20000 dx) (hy : sm 20000 dy) : ∀ k, (∀ j, j ≤ k → s2 (fx j) (fy j)) → (∃ j, j ≤ k ∧ (pF fx fy dx dy k).toInt = vF fx fy dx dy j) ∧ ∀ j, j ≤ k → vF fx fy dx dy j ≤ (pF fx fy dx dy k).toInt
  | 0, hb => by
    have e : (pF fx fy dx dy 0).toInt = vF fx fy dx dy 0 := by
      rw [pF, ps_i (w20 (hb 0 (Nat.le_refl 0)).1) hx (w20 (hb 0 (Nat.le_refl 0)).2) hy]; rfl
    exact ⟨⟨0, Nat.le_refl 0, e⟩, fun j hj => by rw [show j = 0 by omega, e]; exact Int.le_refl _⟩
  | k + 1, hb => by
    obtain ⟨⟨j0, h1, h2⟩, h3⟩ := pF_i hx hy k (fun j hj => hb j (by omega))
    have e : (fx (k + 1) * dx + fy (k + 1) * dy).toInt = vF fx fy dx dy (k + 1) := by
      rw [ps_i (w20 (hb (k + 1) (Nat.le_refl _)).1) hx (w20 (hb (k + 1) (Nat.le_refl _)).2) hy]; rfl
    rw [pF, lMax_i, e]
    refine ⟨?_, fun j hj => ?_⟩
    · by_cases c : (pF fx fy dx dy k).toInt ≤ vF fx fy dx dy (k + 1)
      · exact ⟨k + 1, Nat.le_refl _, by omega⟩
      · exact ⟨j0, by omega, by omega⟩
    · by_cases c : j = k + 1
      · rw [c]; omega
      · have := h3 j (by omega); omega
theorem vF_b {fx fy : Nat → Int64} {dx dy : Int64} (hx : sm 20000 dx) (hy : sm 20000 dy) {j : Nat} (h : s2 (fx j) (fy j)) : -1000000000000000 ≤ vF fx fy dx dy j ∧ vF fx fy dx dy j ≤ 1000000000000000 := by
  have h1 := pr_b (a := (fx j).toInt) (b := dx.toInt) (by have := h.1.1; omega) (by have := h.1.2; omega) (by have := hx.1; omega) (by have := hx.2; omega)
  have h2 := pr_b (a := (fy j).toInt) (b := dy.toInt) (by have := h.2.1; omega) (by have := h.2.2; omega) (by have := hy.1; omega) (by have := hy.2; omega)
  unfold vF; omega
theorem sm_neg {x : Int64} (h : sm 20000 x) : sm 20000 (-x) ∧ (-x).toInt = -x.toInt := by
  have e := tI_neg (x := x) (by have := h.1; omega) (by have := h.2; omega)
  unfold sm at *; rw [e]; exact ⟨by omega, rfl⟩
theorem smc1 : sm 20000 (1 : Int64) := by unfold sm; decide
theorem smc0 : sm 20000 (0 : Int64) := by unfold sm; decide
theorem smcm : sm 20000 (-1 : Int64) := by unfold sm; decide
theorem rng_i {fx fy : Nat → Int64} {dx dy : Int64} (hx : sm 20000 dx) (hy : sm 20000 dy) {n : Nat} (hn : 1 ≤ n) (hb : ∀ j, j < n → s2 (fx j) (fy j)) {x y : Int64} (hp : s2 x y) : ¬ pF fx fy dx dy (n - 1) < x * dx + y * dy ↔ ∃ j, j < n ∧ x.toInt * dx.toInt + y.toInt * dy.toInt ≤ (fx j).toInt * dx.toInt + (fy j).toInt * dy.toInt := by
  obtain ⟨⟨j0, h1, h2⟩, h3⟩ := pF_i hx hy (n - 1) (fun j hj => hb j (by omega))
  rw [Int64.lt_iff_toInt_lt, ps_i (w20 hp.1) hx (w20 hp.2) hy]
  constructor
  · intro h
    have e3 : vF fx fy dx dy j0 = (fx j0).toInt * dx.toInt + (fy j0).toInt * dy.toInt := rfl
    exact ⟨j0, by omega, by omega⟩
  · rintro ⟨j, hj, e⟩ h
    have := h3 j (by omega)
    have e2 : vF fx fy dx dy j = (fx j).toInt * dx.toInt + (fy j).toInt * dy.toInt := rfl
    omega
theorem pEdge_i {fx fy : Nat → Int64} {n k : Nat} (hk : k < n) (hb : ∀ j, j < n → s2 (fx j) (fy j)) {x y : Int64} (hp : s2 x y) : (pEdge fx fy n k x y).toInt = crs (pt fx fy k) (pt fx fy (pAfter n k)) (ptL x y) := by
  have h1 := hb k hk
  have h2 := hb _ (pAfter_lt hk)
  unfold pEdge pTurn
  rw [pp_i (d_i h2.1 h1.1).2 (d_i hp.2 h1.2).2 (d_i h2.2 h1.2).2 (d_i hp.1 h1.1).2, (d_i h2.1 h1.1).1, (d_i hp.2 h1.2).1, (d_i h2.2 h1.2).1, (d_i hp.1 h1.1).1]
  rfl
theorem pHolds_i {fx fy : Nat → Int64} {n : Nat} (hn : 1 ≤ n) (hb : ∀ j, j < n → s2 (fx j) (fy j)) {x y : Int64} (hp : s2 x y) : pHolds fx fy n x y = true ↔ In (pt fx fy) n (em (ptL x y)) := by
  rw [pHolds_iff, rng_i smc1 smc0 hn hb hp, rng_i smcm smc0 hn hb hp, rng_i smc0 smc1 hn hb hp, rng_i smc0 smcm hn hb hp, i1, i0, im1]
  unfold In em ptL
  simp only [Int.mul_one, Int.mul_zero, Int.add_zero, Int.zero_add, Int.one_mul, Int.mul_neg, Int.neg_le_neg_iff]
  have he : (∀ k, k < n → 0 ≤ pEdge fx fy n k x y) ↔ ∀ k, k < n → 0 ≤ crh (pt fx fy k) (pt fx fy (pAfter n k)) (x.toInt, y.toInt, 1) := by
    have q : ∀ k, k < n → (0 ≤ pEdge fx fy n k x y ↔ 0 ≤ crh (pt fx fy k) (pt fx fy (pAfter n k)) (x.toInt, y.toInt, 1)) := fun k hk => by
      rw [ge0_i, pEdge_i hk hb hp, ← crh_em]; exact Iff.rfl
    exact ⟨fun h k hk => (q k hk).mp (h k hk), fun h k hk => (q k hk).mpr (h k hk)⟩
  rw [he]
  exact ⟨fun h => h.2, fun h => ⟨by omega, h⟩⟩
theorem pGap_i {fx fy ux uy : Nat → Int64} {n m : Nat} (hn : 1 ≤ n) (hm : 1 ≤ m) (hf : ∀ j, j < n → s2 (fx j) (fy j)) (hu : ∀ j, j < m → s2 (ux j) (uy j)) {dx dy : Int64} (hx : sm 20000 dx) (hy : sm 20000 dy) : pGap fx fy n ux uy m dx dy = true ↔ Gp (pt fx fy) n (pt ux uy) m (ptL dx dy) := by
  have half : ∀ (ax ay bx by_ : Nat → Int64) (p q : Nat), 1 ≤ p → 1 ≤ q → (∀ j, j < p → s2 (ax j) (ay j)) → (∀ j, j < q → s2 (bx j) (by_ j)) → (pF ax ay dx dy (p - 1) < -pF bx by_ (-dx) (-dy) (q - 1) ↔ ∀ i j, i < p → j < q → dt (ptL dx dy) (pt ax ay i) < dt (ptL dx dy) (pt bx by_ j)) := by
    intro ax ay bx by_ p q hp hq ha hb
    obtain ⟨⟨i0, a1, a2⟩, a3⟩ := pF_i hx hy (p - 1) (fun j hj => ha j (by omega))
    obtain ⟨⟨j0, b1, b2⟩, b3⟩ := pF_i (sm_neg hx).1 (sm_neg hy).1 (q - 1) (fun j hj => hb j (by omega))
    have hbd := vF_b (sm_neg hx).1 (sm_neg hy).1 (hb j0 (by omega))
    have ev : ∀ j, vF bx by_ (-dx) (-dy) j = -vF bx by_ dx dy j := fun j => by unfold vF; rw [(sm_neg hx).2, (sm_neg hy).2, Int.mul_neg, Int.mul_neg]; omega
    rw [Int64.lt_iff_toInt_lt, tI_neg (by omega) (by omega), a2, b2, ev]
    constructor
    · intro h i j hi hj
      rw [← vF_dt, ← vF_dt]
      have c1 := a3 i (by omega)
      have c2 := b3 j (by omega)
      rw [a2] at c1
      rw [b2, ev, ev] at c2
      omega
    · intro h
      have := h i0 j0 (by omega) (by omega)
      rw [← vF_dt, ← vF_dt] at this
      omega
  rw [pGap_iff, half fx fy ux uy n m hn hm hf hu, half ux uy fx fy m n hm hn hu hf]
  unfold Gp
  exact ⟨fun h => h.elim Or.inl (fun z => Or.inr (fun i j hi hj => z j i hj hi)), fun h => h.elim Or.inl (fun z => Or.inr (fun i j hi hj => z j i hj hi))⟩
theorem Gp_sw {c e : Nat → Pt} {n k : Nat} {d : Pt} : Gp c n e k d ↔ Gp e k c n d := by
  unfold Gp
  exact ⟨fun h => h.elim (fun z => Or.inr (fun i j hi hj => z j i hj hi)) (fun z => Or.inl (fun i j hi hj => z j i hj hi)), fun h => h.elim (fun z => Or.inr (fun i j hi hj => z j i hj hi)) (fun z => Or.inl (fun i j hi hj => z j i hj hi))⟩
theorem pGapE_i {fx fy ux uy : Nat → Int64} {n m : Nat} (hn : 1 ≤ n) (hm : 1 ≤ m) (hf : ∀ j, j < n → s2 (fx j) (fy j)) (hu : ∀ j, j < m → s2 (ux j) (uy j)) : pGapE fx fy n ux uy m = true ↔ ∃ i, i < n ∧ Gp (pt fx fy) n (pt ux uy) m (nrm (pt fx fy i) (pt fx fy (pAfter n i))) := by
  rw [pGapE_iff]
  have q : ∀ k, k < n → (pGap fx fy n ux uy m (-(fy (pAfter n k) - fy k)) (fx (pAfter n k) - fx k) = true ↔ Gp (pt fx fy) n (pt ux uy) m (nrm (pt fx fy k) (pt fx fy (pAfter n k)))) := by
    intro k hk
    have h1 := hf k hk
    have h2 := hf _ (pAfter_lt hk)
    have dy := d_i h2.2 h1.2
    have dx := d_i h2.1 h1.1
    rw [pGap_i hn hm hf hu (sm_neg dy.2).1 dx.2]
    have e : ptL (-(fy (pAfter n k) - fy k)) (fx (pAfter n k) - fx k) = nrm (pt fx fy k) (pt fx fy (pAfter n k)) := by
      unfold ptL nrm pt; rw [(sm_neg dy.2).2, dy.1, dx.1]
    rw [e]
  constructor
  · intro h
    refine Classical.byContradiction (fun hx => h (fun k hk => ?_))
    cases hg : pGap fx fy n ux uy m (-(fy (pAfter n k) - fy k)) (fx (pAfter n k) - fx k) with
    | false => rfl
    | true => exact (hx ⟨k, hk, (q k hk).mp hg⟩).elim
  · rintro ⟨k, hk, hg⟩ h
    have := (q k hk).mpr hg
    rw [h k hk] at this
    exact absurd this (by decide)
theorem pApart_i {fx fy ux uy : Nat → Int64} {n m : Nat} (hn : 1 ≤ n) (hm : 1 ≤ m) (hf : ∀ j, j < n → s2 (fx j) (fy j)) (hu : ∀ j, j < m → s2 (ux j) (uy j)) : pApart fx fy n ux uy m = true ↔ Ap (pt fx fy) n (pt ux uy) m := by
  rw [pApart_iff, pGap_i hn hm hf hu smc1 smc0, pGap_i hn hm hf hu smc0 smc1, pGapE_i hn hm hf hu, pGapE_i hm hn hu hf]
  unfold Ap
  have e1 : ptL 1 0 = (1, 0) := by unfold ptL; rw [i1, i0]
  have e2 : ptL 0 1 = (0, 1) := by unfold ptL; rw [i1, i0]
  rw [e1, e2]
  constructor
  · rintro (h | h | h | h | h | ⟨j, hj, h⟩)
    · omega
    · omega
    · exact Or.inl h
    · exact Or.inr (Or.inl h)
    · exact Or.inr (Or.inr (Or.inl h))
    · exact Or.inr (Or.inr (Or.inr ⟨j, hj, Gp_sw.mp h⟩))
  · rintro (h | h | h | ⟨j, hj, h⟩)
    · exact Or.inr (Or.inr (Or.inl h))
    · exact Or.inr (Or.inr (Or.inr (Or.inl h)))
    · exact Or.inr (Or.inr (Or.inr (Or.inr (Or.inl h))))
    · exact Or.inr (Or.inr (Or.inr (Or.inr (Or.inr ⟨j, hj, Gp_sw.mp h⟩))))
/-! the corners, as the class finds them -/
theorem pPop_spec {fx fy : Nat → Int64} {x y : Int64} {kp : Nat} (h1 : 1 ≤ kp) : ∀ t, kp ≤ t → kp ≤ pPop fx fy x y kp t ∧ pPop fx fy x y kp t ≤ t ∧ (pPop fx fy x y kp t = kp ∨ 0 < pTurn (fx (pPop fx fy x y kp t - 1) - fx (pPop fx fy x y kp t - 2)) (fy (pPop fx fy x y kp t - 1) - fy (pPop fx fy x y kp t - 2)) (x - fx (pPop fx fy x y kp t - 1)) (y - fy (pPop fx fy x y kp t - 1))) ∧ (pPop fx fy x y kp t < t → pTurn (fx (pPop fx fy x y kp t) - fx (pPop fx fy x y kp t - 1)) (fy (pPop fx fy x y kp t) - fy (pPop fx fy x y kp t - 1)) (x - fx (pPop fx fy x y kp t)) (y - fy (pPop fx fy x y kp t)) ≤ 0)
  | 0, h => by omega
  | q + 1, h => by
    by_cases c : kp < q + 1 ∧ pTurn (fx q - fx (q - 1)) (fy q - fy (q - 1)) (x - fx q) (y - fy q) ≤ 0
    · have e : pPop fx fy x y kp (q + 1) = pPop fx fy x y kp q := by rw [pPop, if_pos c]
      have ih := pPop_spec (fx := fx) (fy := fy) (x := x) (y := y) h1 q (by omega)
      rw [e]
      refine ⟨ih.1, by omega, ih.2.2.1, fun hlt => ?_⟩
      by_cases eq : pPop fx fy x y kp q = q
      · rw [eq]; exact c.2
      · exact ih.2.2.2 (by omega)
    · have e : pPop fx fy x y kp (q + 1) = q + 1 := by rw [pPop, if_neg c]
      rw [e]
      refine ⟨h, Nat.le_refl _, ?_, fun hlt => by omega⟩
      by_cases eq : q + 1 = kp
      · exact Or.inl eq
      · right
        rw [show q + 1 - 1 = q by omega, show q + 1 - 2 = q - 1 by omega]
        exact Int64.not_le.mp (fun z => c ⟨by omega, z⟩)
theorem turn_i {ax ay bx by_ x y : Int64} (ha : s2 ax ay) (hb : s2 bx by_) (hx : s2 x y) : (pTurn (bx - ax) (by_ - ay) (x - bx) (y - by_)).toInt = crs (ptL ax ay) (ptL bx by_) (ptL x y) := by
  unfold pTurn
  rw [pp_i (d_i hb.1 ha.1).2 (d_i hx.2 hb.2).2 (d_i hb.2 ha.2).2 (d_i hx.1 hb.1).2, (d_i hb.1 ha.1).1, (d_i hx.2 hb.2).1, (d_i hb.2 ha.2).1, (d_i hx.1 hb.1).1, crs_m]
  rfl
theorem app_step {σ : Pt → Pt} (hσ : ∀ a b d, crs (σ a) (σ b) (σ d) = crs a b d) {o : Nat → Pt} {k b t : Nat} {gx gy : Nat → Int64} {x y : Int64} (h : Ch o k (fun i => σ (pt gx gy (b + i))) (t - b)) (hk : 1 ≤ k) (hs : ∀ i j, i < j → j < k + 1 → lx (o i) (o j)) (hbt : b + 1 ≤ t) (ho : o k = σ (ptL x y)) (hb : ∀ i, i < t → s2 (gx i) (gy i)) (hx : s2 x y) :
    Ch o (k + 1) (fun i => σ (pt (pApp (b + 1) (gx, gy, t) x y).1 (pApp (b + 1) (gx, gy, t) x y).2.1 (b + i))) ((pApp (b + 1) (gx, gy, t) x y).2.2 - b) ∧ b + 2 ≤ (pApp (b + 1) (gx, gy, t) x y).2.2 ∧ (pApp (b + 1) (gx, gy, t) x y).2.2 ≤ t + 1 ∧ (∀ i, i < (pApp (b + 1) (gx, gy, t) x y).2.2 → s2 ((pApp (b + 1) (gx, gy, t) x y).1 i) ((pApp (b + 1) (gx, gy, t) x y).2.1 i)) ∧ (∀ i, i ≤ b → pt (pApp (b + 1) (gx, gy, t) x y).1 (pApp (b + 1) (gx, gy, t) x y).2.1 i = pt gx gy i) := by
  have sp := pPop_spec (fx := gx) (fy := gy) (x := x) (y := y) (kp := b + 1) (by omega) t hbt
  have ep : pApp (b + 1) (gx, gy, t) x y = (vp_updL gx (pPop gx gy x y (b + 1) t) x, vp_updL gy (pPop gx gy x y (b + 1) t) y, pPop gx gy x y (b + 1) t + 1) := rfl
  rw [ep]
  generalize pPop gx gy x y (b + 1) t = r at *
  obtain ⟨r1, r2, r3, r4⟩ := sp
  have new : pt (vp_updL gx r x) (vp_updL gy r y) r = ptL x y := by unfold pt ptL vp_updL; rw [if_pos rfl, if_pos rfl]
  have old : ∀ i, ¬ i = r → pt (vp_updL gx r x) (vp_updL gy r y) i = pt gx gy i := fun i hi => by unfold pt vp_updL; rw [if_neg hi, if_neg hi]
  refine ⟨?_, (show b + 2 ≤ r + 1 by omega), (show r + 1 ≤ t + 1 by omega), ?_, fun i hi => old i (by omega)⟩
  · have st := h.step (s := r - b - 1) (g' := fun i => σ (pt (vp_updL gx r x) (vp_updL gy r y) (b + i))) hk hs (by omega) ?_ ?_ ?_ ?_
    · rw [show r + 1 - b = r - b - 1 + 2 by omega]; exact st
    · by_cases e : r = b + 1
      · exact Or.inl (by omega)
      · right
        have r3 := r3.resolve_left e
        rw [gt0_i, turn_i (hb _ (by omega)) (hb _ (by omega)) hx] at r3
        show 0 < crs (σ (pt gx gy (b + (r - b - 1 - 1)))) (σ (pt gx gy (b + (r - b - 1)))) (o k)
        rw [ho, hσ, show b + (r - b - 1 - 1) = r - 2 by omega, show b + (r - b - 1) = r - 1 by omega]
        exact r3
    · intro hlt
      have r4 := r4 (by omega)
      rw [le0_i, turn_i (hb _ (by omega)) (hb _ (by omega)) hx] at r4
      show crs (σ (pt gx gy (b + (r - b - 1)))) (σ (pt gx gy (b + (r - b - 1 + 1)))) (o k) ≤ 0
      rw [ho, hσ, show b + (r - b - 1) = r - 1 by omega, show b + (r - b - 1 + 1) = r by omega]
      exact r4
    · intro i hi
      show σ (pt (vp_updL gx r x) (vp_updL gy r y) (b + i)) = σ (pt gx gy (b + i))
      rw [old (b + i) (by omega)]
    · show σ (pt (vp_updL gx r x) (vp_updL gy r y) (b + (r - b - 1 + 1))) = o k
      rw [show b + (r - b - 1 + 1) = r by omega, new, ho]
  · intro i hi
    show s2 (vp_updL gx r x i) (vp_updL gy r y i)
    unfold vp_updL
    by_cases e : i = r
    · rw [if_pos e, if_pos e]; exact hx
    · rw [if_neg e, if_neg e]; exact hb i (by have : i < r + 1 := hi; omega)
