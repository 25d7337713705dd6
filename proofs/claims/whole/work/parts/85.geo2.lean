/-! polygons -/
abbrev Poly (O : Pt → Prop) (c : Nat → Pt) (n : Nat) : Prop := (1 ≤ n) ∧ (∀ k, k < n → O (c k)) ∧ (∀ k s, k < n → O s → 0 ≤ crs (c k) (c (pAfter n k)) s) ∧ (3 ≤ n → ∀ k, k < n → 0 < crs (c k) (c (pAfter n k)) (c (pAfter n (pAfter n k)))) ∧ (∀ k, 1 ≤ k → k < n → lx (c 0) (c k)) ∧ (n ≤ 2 → ∀ s, O s → (s = c 0 ∨ lx (c 0) s) ∧ (s = c (n - 1) ∨ lx s (c (n - 1))))
theorem Poly.pos {O : Pt → Prop} {c : Nat → Pt} {n : Nat} (h : Poly O c n) : 1 ≤ n := h.1
theorem Poly.mem {O : Pt → Prop} {c : Nat → Pt} {n : Nat} (h : Poly O c n) : ∀ k, k < n → O (c k) := h.2.1
theorem Poly.lft {O : Pt → Prop} {c : Nat → Pt} {n : Nat} (h : Poly O c n) : ∀ k s, k < n → O s → 0 ≤ crs (c k) (c (pAfter n k)) s := h.2.2.1
theorem Poly.str {O : Pt → Prop} {c : Nat → Pt} {n : Nat} (h : Poly O c n) : 3 ≤ n → ∀ k, k < n → 0 < crs (c k) (c (pAfter n k)) (c (pAfter n (pAfter n k))) := h.2.2.2.1
theorem Poly.lst {O : Pt → Prop} {c : Nat → Pt} {n : Nat} (h : Poly O c n) : ∀ k, 1 ≤ k → k < n → lx (c 0) (c k) := h.2.2.2.2.1
theorem Poly.two {O : Pt → Prop} {c : Nat → Pt} {n : Nat} (h : Poly O c n) : n ≤ 2 → ∀ s, O s → (s = c 0 ∨ lx (c 0) s) ∧ (s = c (n - 1) ∨ lx s (c (n - 1))) := h.2.2.2.2.2
theorem after_lt {n k : Nat} (h : k + 1 < n) : pAfter n k = k + 1 := by unfold pAfter; rw [if_pos h]
theorem after_ge {n k : Nat} (h : ¬ k + 1 < n) : pAfter n k = 0 := by unfold pAfter; rw [if_neg h]
/-- at an end of both ways: if it does not turn, all lie on one line -/
theorem junct {T a b s : Pt} (ha : lx T a) (hb : lx T b) (h0 : crs T a b = 0) (h1 : 0 ≤ crs T a s) (h2 : crs T b s ≤ 0) : crs T a s = 0 ∧ crs T b s = 0 := by
  have k1 : 0 ≤ crs T b s := par_nn (lx_lp ha) (lx_lp hb) h0 h1
  have e1 : crs T b a = 0 := by have : crs T b a = -crs T a b := by unfold crs; grind
                                omega
  have k2 : 0 ≤ (b.1 - T.1) * -(s.2 - T.2) - (b.2 - T.2) * -(s.1 - T.1) := by
    have : (b.1 - T.1) * -(s.2 - T.2) - (b.2 - T.2) * -(s.1 - T.1) = -crs T b s := by unfold crs; grind
    omega
  have k3 := par_nn (lx_lp hb) (lx_lp ha) e1 k2
  have : (a.1 - T.1) * -(s.2 - T.2) - (a.2 - T.2) * -(s.1 - T.1) = -crs T a s := by unfold crs; grind
  omega
theorem junct2 {T a b s : Pt} (ha : lx a T) (hb : lx b T) (h0 : crs a T b = 0) (h1 : 0 ≤ crs a T s) (h2 : 0 ≤ crs T b s) : crs a T s = 0 ∧ crs T b s = 0 := by
  have k1 := par_nn (f := s.1 - T.1) (g := s.2 - T.2) (lx_lp ha) (lx_lp hb) (by
    have : (T.1 - a.1) * (T.2 - b.2) - (T.2 - a.2) * (T.1 - b.1) = -crs a T b := by unfold crs; grind
    omega) (by rw [crs_m] at h1; exact h1)
  have e1 : (T.1 - b.1) * (s.2 - T.2) - (T.2 - b.2) * (s.1 - T.1) = -crs T b s := by unfold crs; grind
  have k2 := par_nn (f := -(s.1 - T.1)) (g := -(s.2 - T.2)) (lx_lp hb) (lx_lp ha) (by
    have : (T.1 - b.1) * (T.2 - a.2) - (T.2 - b.2) * (T.1 - a.1) = crs a T b := by unfold crs; grind
    omega) (by
    have : (T.1 - b.1) * -(s.2 - T.2) - (T.2 - b.2) * -(s.1 - T.1) = crs T b s := by unfold crs; grind
    omega)
  have e2 : (T.1 - a.1) * -(s.2 - T.2) - (T.2 - a.2) * -(s.1 - T.1) = -crs a T s := by unfold crs; grind
  omega
theorem Poly.of {o : Nat → Pt} {N : Nat} (hN : 1 ≤ N) (hs : ∀ i j, i < j → j < N → lx (o i) (o j)) {l u c : Nat → Pt} {m p : Nat} (hl : Ch o N l (m + 1)) (hu : Ch (fun j => ng (o (N - 1 - j))) N u (p + 1))
    (cl : ∀ i, i ≤ m → c i = l i) (cu : ∀ i, 1 ≤ i → i < p → c (m + i) = ng (u i)) : Poly (fun s => ∃ j, j < N ∧ s = o j) c (if 1 < N then m + p else 1) := by
  have c0 : c 0 = o 0 := by rw [cl 0 (by omega)]; exact hl.fst
  have lm : l m = o (N - 1) := hl.lst
  have u0 : ng (u 0) = o (N - 1) := by rw [hu.fst, ng_ng]; rfl
  have up : ng (u p) = o 0 := by
    have := hu.lst
    rw [Nat.add_sub_cancel] at this
    rw [this, ng_ng, Nat.sub_self]
  by_cases h1 : 1 < N
  · rw [if_pos h1]
    have hne : lx (o 0) (o (N - 1)) := hs 0 (N - 1) (by omega) (by omega)
    have hm : 1 ≤ m := by
      by_cases q : m = 0
      · subst q; rw [← lm, hl.fst] at hne; exact absurd hne lx_irr
      · omega
    have hp : 1 ≤ p := by
      by_cases q : p = 0
      · subst q; rw [up] at u0; rw [← u0] at hne; exact absurd hne lx_irr
      · omega
    -- the way around
    have eu : ∀ i, i ≤ p → m + i < m + p → c (m + i) = ng (u i) := by
      intro i hi hlt
      by_cases q : i = 0
      · subst q; rw [Nat.add_zero, cl m (Nat.le_refl _), lm, u0]
      · exact cu i (by omega) (by omega)
    have nxt : ∀ i, i < p → c (pAfter (m + p) (m + i)) = ng (u (i + 1)) := by
      intro i hi
      by_cases q : i + 1 < p
      · rw [after_lt (by omega), Nat.add_assoc]; exact eu (i + 1) (by omega) (by omega)
      · rw [after_ge (by omega), c0, show i + 1 = p by omega, up]
    have lnx : ∀ i, i < m → c (pAfter (m + p) i) = l (i + 1) := by
      intro i hi
      rw [after_lt (by omega)]; exact cl (i + 1) (by omega)
    have hng : ∀ j, j < N → ng (o j) = (fun j => ng (o (N - 1 - j))) (N - 1 - j) := by
      intro j hj; show _ = ng (o (N - 1 - (N - 1 - j))); rw [show N - 1 - (N - 1 - j) = j by omega]
    have lft : ∀ k s, k < m + p → (∃ j, j < N ∧ s = o j) → 0 ≤ crs (c k) (c (pAfter (m + p) k)) s := by
      rintro k s hk ⟨j, hj, rfl⟩
      by_cases q : k < m
      · rw [lnx k q, cl k (by omega)]; exact hl.lft k j (by omega) hj
      · obtain ⟨i, rfl⟩ : ∃ i, k = m + i := ⟨k - m, by omega⟩
        rw [nxt i (by omega), eu i (by omega) hk, ← crs_ng, ng_ng, ng_ng, hng j hj]
        exact hu.lft i (N - 1 - j) (by omega) (by omega)
    have lmem : ∀ i, i ≤ m → ∃ j, j < N ∧ l i = o j := fun i hi => hl.mem i (by omega)
    have umem : ∀ i, i ≤ p → ∃ j, j < N ∧ ng (u i) = o j := by
      intro i hi
      obtain ⟨j, hj, e⟩ := hu.mem i (by omega)
      exact ⟨N - 1 - j, by omega, by rw [e, ng_ng]⟩
    refine ⟨by omega, ?_, lft, ?_, ?_, ?_⟩
    · intro k hk
      by_cases q : k ≤ m
      · rw [cl k q]; exact lmem k q
      · obtain ⟨i, rfl⟩ : ∃ i, k = m + i := ⟨k - m, by omega⟩
        rw [eu i (by omega) hk]; exact umem i (by omega)
    · intro h3 k hk
      by_cases q1 : k + 2 ≤ m
      · have hA : pAfter (m + p) k = k + 1 := after_lt (by omega)
        rw [hA, lnx (k + 1) (by omega), cl k (by omega), cl (k + 1) (by omega)]
        exact hl.str k (by omega)
      · by_cases q2 : m ≤ k
        · obtain ⟨i, rfl⟩ : ∃ i, k = m + i := ⟨k - m, by omega⟩
          by_cases q3 : i + 2 ≤ p
          · have hA : pAfter (m + p) (m + i) = m + (i + 1) := after_lt (by omega)
            rw [hA, nxt (i + 1) (by omega), eu i (by omega) hk, eu (i + 1) (by omega) (by omega), crs_ng]
            exact hu.str i (by omega)
          · -- the first corner
            have hi : i + 1 = p := by omega
            have eb : c (m + i) = ng (u i) := eu i (by omega) hk
            have hA : pAfter (m + p) (m + i) = 0 := after_ge (by omega)
            have hB : pAfter (m + p) 0 = 0 + 1 := after_lt (by omega)
            rw [hA, hB, c0, eb, cl (0 + 1) (by omega)]
            have l0 : lx (o 0) (l (0 + 1)) := by have := hl.inc 0 (by omega); rwa [hl.fst] at this
            have b0 : lx (o 0) (ng (u i)) := by have := lx_ng (hu.inc i (by omega)); rwa [hi, up] at this
            obtain ⟨jb, hjb, ebj⟩ := umem i (by omega)
            have g1 : ∀ j, j < N → 0 ≤ crs (o 0) (l (0 + 1)) (o j) := fun j hj => by have := hl.lft 0 j (by omega) hj; rwa [hl.fst] at this
            have g2 : ∀ j, j < N → crs (o 0) (ng (u i)) (o j) ≤ 0 := fun j hj => by
              have := lft (m + i) (o j) hk ⟨j, hj, rfl⟩
              rw [hA, c0, eb, crs_sw] at this; omega
            have g3 : 0 ≤ crs (ng (u i)) (o 0) (l (0 + 1)) := by
              have := g1 jb hjb; rw [← ebj] at this; rw [crs_cy]; exact this
            by_cases z : crs (ng (u i)) (o 0) (l (0 + 1)) = 0
            · exfalso
              have z' : crs (o 0) (l (0 + 1)) (ng (u i)) = 0 := by rw [← crs_cy]; exact z
              have all := fun j hj => junct l0 b0 z' (g1 j hj) (g2 j hj)
              by_cases m2 : 2 ≤ m
              · have s1 := hl.str 0 (by omega)
                obtain ⟨j2, hj2, e2⟩ := lmem (0 + 2) (by omega)
                have := (all j2 hj2).1
                rw [e2, hl.fst] at s1
                omega
              · have s1 := hu.str (i - 1) (by omega)
                rw [show i - 1 + 1 = i by omega, show i - 1 + 2 = p by omega, ← crs_ng, up] at s1
                obtain ⟨j2, hj2, e2⟩ := umem (i - 1) (by omega)
                have := (all j2 hj2).2
                rw [e2, crs_cy, crs_sw] at s1
                omega
            · omega
        · -- the last corner
          have hk1 : k + 1 = m := by omega
          have hA : pAfter (m + p) k = m + 0 := by rw [Nat.add_zero, ← hk1]; exact after_lt (by omega)
          rw [hA, nxt 0 (by omega), Nat.add_zero, cl k (by omega), cl m (Nat.le_refl _), lm]
          have l0 : lx (l k) (o (N - 1)) := by have := hl.inc k (by omega); rwa [hk1, lm] at this
          have b0 : lx (ng (u (0 + 1))) (o (N - 1)) := by have := lx_ng (hu.inc 0 (by omega)); rwa [u0] at this
          obtain ⟨jb, hjb, ebj⟩ := umem (0 + 1) (by omega)
          have g1 : ∀ j, j < N → 0 ≤ crs (l k) (o (N - 1)) (o j) := fun j hj => by have := hl.lft k j (by omega) hj; rwa [hk1, lm] at this
          have g2 : ∀ j, j < N → 0 ≤ crs (o (N - 1)) (ng (u (0 + 1))) (o j) := fun j hj => by
            have := lft (m + 0) (o j) (by omega) ⟨j, hj, rfl⟩
            rw [nxt 0 (by omega), Nat.add_zero, cl m (Nat.le_refl _), lm] at this; exact this
          have g3 := g1 jb hjb
          rw [← ebj] at g3
          by_cases z : crs (l k) (o (N - 1)) (ng (u (0 + 1))) = 0
          · exfalso
            have all := fun j hj => junct2 l0 b0 z (g1 j hj) (g2 j hj)
            by_cases m2 : 2 ≤ m
            · have s1 := hl.str (k - 1) (by omega)
              rw [show k - 1 + 1 = k by omega, show k - 1 + 2 = m by omega, lm] at s1
              obtain ⟨j2, hj2, e2⟩ := lmem (k - 1) (by omega)
              have := (all j2 hj2).1
              rw [e2, crs_cy] at s1
              omega
            · have s1 := hu.str 0 (by omega)
              obtain ⟨j2, hj2, e2⟩ := umem (0 + 2) (by omega)
              have := (all j2 hj2).2
              rw [← crs_ng, u0, e2] at s1
              omega
          · omega
    · intro k h1 hk
      rw [c0]
      by_cases q : k ≤ m
      · have := hl.inc_all (k - 1) 0 (by omega)
        rw [hl.fst, show 0 + 1 + (k - 1) = k by omega] at this
        rw [cl k q]; exact this
      · obtain ⟨i, rfl⟩ : ∃ i, k = m + i := ⟨k - m, by omega⟩
        have := lx_ng (hu.inc_all (p - i - 1) i (by omega))
        rw [show i + 1 + (p - i - 1) = p by omega, up] at this
        rw [eu i (by omega) hk]; exact this
    · rintro h2 s ⟨j, hj, rfl⟩
      have hm1 : m = 1 := by omega
      have hp1 : p = 1 := by omega
      subst hm1; subst hp1
      rw [c0, show 1 + 1 - 1 = 1 from rfl, cl 1 (Nat.le_refl _), lm]
      refine ⟨?_, ?_⟩
      · by_cases q : j = 0
        · exact Or.inl (by rw [q])
        · exact Or.inr (hs 0 j (by omega) hj)
      · by_cases q : j = N - 1
        · exact Or.inl (by rw [q])
        · exact Or.inr (hs j (N - 1) (by omega) (by omega))
  · rw [if_neg h1]
    have hN1 : N = 1 := by omega
    subst hN1
    refine ⟨Nat.le_refl _, ?_, ?_, fun h => by omega, fun k a b => by omega, ?_⟩
    · intro k hk; exact ⟨0, by omega, by rw [show k = 0 by omega, c0]⟩
    · rintro k s hk ⟨j, hj, rfl⟩
      rw [show k = 0 by omega, after_ge (by omega), show j = 0 by omega, c0, crs_ab]; exact Int.le_refl 0
    · rintro _ s ⟨j, hj, rfl⟩
      rw [show j = 0 by omega, c0]; exact ⟨Or.inl rfl, Or.inl rfl⟩
