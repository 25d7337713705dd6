/-! sweeps: the class and the reference go the same way -/
theorem mT_b {u l_ : Int64} (h0 : 0 ≤ u.toInt) (h1 : u.toInt ≤ l_.toInt) (h2 : 0 < l_.toInt) (h3 : l_.toInt ≤ 1048576) : 0 < (mTl u l_).toInt ∧ (mTl u l_).toInt ≤ 1048576 ∧ 0 ≤ (mTu u l_).toInt ∧ (mTu u l_).toInt ≤ (mTl u l_).toInt := by
  unfold mTu mTl
  have b1 : u.toInt.toNat ≤ l_.toInt.toNat := by omega
  have b2 : l_.toInt.toNat ≤ 1048576 := by omega
  have b3 : 0 < l_.toInt.toNat := by omega
  generalize u.toInt.toNat = a at *
  generalize l_.toInt.toNat = b at *
  have hg : 0 < Nat.gcd a b := Nat.gcd_pos_of_pos_right a b3
  have hg2 : Nat.gcd a b ≤ b := Nat.gcd_le_right a b3
  have d1 := Nat.div_pos hg2 hg
  have d2 := Nat.div_le_self b (Nat.gcd a b)
  have d3 := Nat.div_le_div_right (c := Nat.gcd a b) b1
  generalize b / Nat.gcd a b = x at *
  generalize a / Nat.gcd a b = y at *
  rw [pk_lT (by omega), pk_lT (by omega)]
  omega
theorem cI_b {o0 o1 o2 o3 t0 t1 t2 t3 mx my : Int64} (a0 : sm 100000 o0) (a1 : sm 100000 o1) (a2 : sm 100000 o2) (a3 : sm 100000 o3) (b0 : sm 100000 t0) (b1 : sm 100000 t1) (b2 : sm 100000 t2) (b3 : sm 100000 t3) (hx : sm 100000 mx) (hy : sm 100000 my) (h : cFI o0 o1 o2 o3 t0 t1 t2 t3 mx my) :
    0 < (cLI o0 o1 o2 o3 t0 t1 t2 t3 mx my).toInt ∧ (cLI o0 o1 o2 o3 t0 t1 t2 t3 mx my).toInt ≤ 1048576 ∧ 0 ≤ (cUI o0 o1 o2 o3 t0 t1 t2 t3 mx my).toInt ∧ (cUI o0 o1 o2 o3 t0 t1 t2 t3 mx my).toInt ≤ (cLI o0 o1 o2 o3 t0 t1 t2 t3 mx my).toInt := by
  obtain ⟨hq, _⟩ := mo_ok a0 a1 a2 a3 b0 b1 b2 b3 hx hy
  obtain ⟨k, hk, hh⟩ := h
  obtain ⟨j, hj, hp, hmin⟩ := least hh
  unfold cLI cUI
  rw [mRu_s (show j < _ by omega) hp hmin, mRl_s (show j < _ by omega) hp hmin]
  have := hq.1 j (by omega)
  exact mT_b this.1 this.2.1 this.2.2.1 this.2.2.2
theorem gScan_b {fsl : Nat → Bool} {f : Nat → Int64} {rx ry : Int64} (hp : pOK f) (hrx : sm 20000 rx) (hry : sm 20000 ry) : ∀ t, t ≤ 576 → 0 < (gScan fsl f rx ry t).2.2.toInt ∧ (gScan fsl f rx ry t).2.2.toInt ≤ 1048576 ∧ 0 ≤ (gScan fsl f rx ry t).2.1.toInt ∧ (gScan fsl f rx ry t).2.1.toInt ≤ (gScan fsl f rx ry t).2.2.toInt
  | 0, _ => by rw [gScan]; show 0 < (1 : Int64).toInt ∧ (1 : Int64).toInt ≤ 1048576 ∧ 0 ≤ (1 : Int64).toInt ∧ (1 : Int64).toInt ≤ (1 : Int64).toInt; decide
  | t + 1, ht => by
    rw [gScan]
    split
    · rename_i hc
      have hF := (pB_iff.mp hc).2.1
      exact cI_b (sm_mono hp.1 (by omega)) (sm_mono hp.2.1 (by omega)) (sm3 (pe_sm hp.1 hp.2.2.1)) (sm3 (pe_sm hp.2.1 hp.2.2.2)) (sm3 (tl_sm (by omega))) (sm3 (tl_sm (by omega))) (sm3 (tl_sm (by omega))) (sm3 (tl_sm (by omega))) (sm_mono hrx (by omega)) (sm_mono hry (by omega)) hF
    · exact gScan_b hp hrx hry t (by omega)
theorem tdiv_b {u l : Int} (h0 : 0 ≤ u) (h1 : u ≤ l) (hl : 0 < l) (r : Int) : (0 ≤ r → 0 ≤ (r * u).tdiv l ∧ (r * u).tdiv l ≤ r) ∧ (r ≤ 0 → r ≤ (r * u).tdiv l ∧ (r * u).tdiv l ≤ 0) := by
  have key : ∀ r : Int, 0 ≤ r → 0 ≤ (r * u).tdiv l ∧ (r * u).tdiv l ≤ r := by
    intro r hr
    rw [Int.tdiv_eq_ediv_of_nonneg (Int.mul_nonneg hr h0)]
    exact ⟨Int.ediv_nonneg (Int.mul_nonneg hr h0) (by omega), Int.ediv_le_of_le_mul hl (Int.mul_le_mul_of_nonneg_left h1 hr)⟩
  refine ⟨key r, fun hr => ?_⟩
  have := key (-r) (by omega)
  rw [Int.neg_mul, Int.neg_tdiv] at this
  omega
/-- how far it goes lies between nothing and the rest -/
theorem sh_i {r u l_ : Int64} (hr : sm 20000 r) (hl : 0 < l_.toInt ∧ l_.toInt ≤ 1048576) (hu : 0 ≤ u.toInt ∧ u.toInt ≤ l_.toInt) : (0 ≤ r.toInt → 0 ≤ (r * u / l_).toInt ∧ (r * u / l_).toInt ≤ r.toInt) ∧ (r.toInt ≤ 0 → r.toInt ≤ (r * u / l_).toInt ∧ (r * u / l_).toInt ≤ 0) := by
  have hb := tdiv_b hu.1 hu.2 hl.1 r.toInt
  have e : (r * u / l_).toInt = (r.toInt * u.toInt).tdiv l_.toInt := by
    rw [Int64.toInt_div, pr_i (sm_mono hr (by omega)) ⟨by omega, by omega⟩]
    have := hr.1
    have := hr.2
    by_cases c : 0 ≤ r.toInt
    · have := hb.1 c; exact bm64 (by omega) (by omega)
    · have := hb.2 (by omega); exact bm64 (by omega) (by omega)
  rw [e]; exact hb
theorem sh_ok {x r b : Int64} (hx : sm 10000 x) (hr : rOK x r) (hb : (0 ≤ r.toInt → 0 ≤ b.toInt ∧ b.toInt ≤ r.toInt) ∧ (r.toInt ≤ 0 → r.toInt ≤ b.toInt ∧ b.toInt ≤ 0)) : sm 10000 (x + b) ∧ rOK (x + b) 0 ∧ rOK (x + b) (r - b) := by
  have hx1 := hx.1
  have hx2 := hx.2
  have h1 := hr.1.1
  have h2 := hr.1.2
  have h3 := hr.2
  have e1 : (x + b).toInt = x.toInt + b.toInt := tI_add (by omega) (by omega)
  have e2 : (r - b).toInt = r.toInt - b.toInt := tI_sub (by omega) (by omega)
  unfold rOK sm
  rw [e1, e2, i0]
  omega
theorem rB_eq {G : Option Nat × Int64 × Int64} (h : 0 < G.2.2) (r : Int64) : rB G r = gB G r := by
  unfold rB gB
  cases G.1 with
  | none => rfl
  | some t => show pShare G.2.1 G.2.2 r = _; unfold pShare; rw [if_pos h]
theorem lin_i {x l_ b u : Int64} (hx : sm 1048576 x) (hl : sm 1048576 l_) (hb : sm 1048576 b) (hu : sm 1048576 u) : (x * l_ + b * u).toInt = x.toInt * l_.toInt + b.toInt * u.toInt := by
  have h1 := pr_b hx.1 hx.2 hl.1 hl.2
  have h2 := pr_b hb.1 hb.2 hu.1 hu.2
  rw [tI_add (by rw [pr_i hx hl, pr_i hb hu]; omega) (by rw [pr_i hx hl, pr_i hb hu]; omega), pr_i hx hl, pr_i hb hu]
theorem rK_eq {f : Nat → Int64} {rx : Int64} {G : Option Nat × Int64 × Int64} (hp : pOK f) (hrx : sm 20000 rx) (hl : 0 < G.2.2.toInt ∧ G.2.2.toInt ≤ 1048576) (hu : 0 ≤ G.2.1.toInt ∧ G.2.1.toInt ≤ G.2.2.toInt) (ht : ∀ t, G.1 = some t → t < 576) : rK (f 0) (f 0 + f 2) rx G = gAx f rx G := by
  unfold rK gAx
  cases hG : G.1 with
  | none => rfl
  | some t =>
    have h5 := ht t hG
    have e : oXT (f 0) (f 0 + f 2) rx G.2.1 G.2.2 t = pB (mComI (f 0) (f 0 + f 2) (nI (16 * (t % 24))).toInt64 (nI ((16 * (t % 24)) + 16)).toInt64 rx G.2.1 G.2.2) := by
      have hl' : sm 1048576 G.2.2 := ⟨by omega, by omega⟩
      have hu' : sm 1048576 G.2.1 := ⟨by omega, by omega⟩
      have hx' : sm 1048576 (f 0) := sm_mono hp.1 (by omega)
      have hw' : sm 1048576 (f 0 + f 2) := sm_mono (pe_sm hp.1 hp.2.2.1) (by omega)
      have hr' : sm 1048576 rx := sm_mono hrx (by omega)
      have ht0 : sm 1048576 (nI (16 * (t % 24))).toInt64 := sm_mono (tl_sm (by omega)) (by omega)
      have ht1 : sm 1048576 (nI ((16 * (t % 24)) + 16)).toInt64 := sm_mono (tl_sm (by omega)) (by omega)
      have k : mComI (f 0) (f 0 + f 2) (nI (16 * (t % 24))).toInt64 (nI ((16 * (t % 24)) + 16)).toInt64 rx G.2.1 G.2.2 ↔ (f 0 * G.2.2 + rx * G.2.1 < (nI ((16 * (t % 24)) + 16)).toInt64 * G.2.2 ∧ (nI (16 * (t % 24))).toInt64 * G.2.2 < (f 0 + f 2) * G.2.2 + rx * G.2.1) := by
        refine ⟨fun z => ⟨z.2.1, z.2.2.1⟩, fun z => ⟨?_, z.1, z.2, ?_⟩⟩
        · rw [Int64.lt_iff_toInt_lt, lin_i hx' hl' hr' hu', lin_i hw' hl' hr' hu', pe_i hp.1 hp.2.2.1]
          have := Int.mul_pos (show 0 < (f 2).toInt by have := hp.2.2.1.1; omega) hl.1
          rw [Int.add_mul]; omega
        · rw [pr_lt ht0 hl' ht1 hl', t64 (by omega), t64 (by omega)]
          exact Int.mul_lt_mul_of_pos_right (by omega) hl.1
      unfold oXT
      rw [tl_m2 (by omega), tl_p (by omega)]
      by_cases c : f 0 * G.2.2 + rx * G.2.1 < (nI ((16 * (t % 24)) + 16)).toInt64 * G.2.2 ∧ (nI (16 * (t % 24))).toInt64 * G.2.2 < (f 0 + f 2) * G.2.2 + rx * G.2.1
      · rw [decide_eq_true c, pB_t (k.mpr c)]
      · rw [decide_eq_false c]; symm
        cases hz : pB (mComI (f 0) (f 0 + f 2) (nI (16 * (t % 24))).toInt64 (nI ((16 * (t % 24)) + 16)).toInt64 rx G.2.1 G.2.2) with
        | false => rfl
        | true => exact absurd (k.mp (pB_iff.mp hz)) c
    show oA (f 0) (f 0 + f 2) rx G.2.1 G.2.2 t = _
    unfold oA
    rw [e]
    rfl
/-- what is told of n sweeps -/
def Trl (n : Nat) (ft : Nat → Int64 × Int64 × Nat × Option Nat × Int64 × Int64) (fsw : Nat → Int64) : Prop := ∀ k, k < n → fsw (6 * k) = (ft k).1 ∧ fsw (6 * k + 1) = (ft k).2.1 ∧ fsw (6 * k + 2) = (axI (ft k).2.2.1).toInt64 ∧ fsw (6 * k + 3) = (mI (ft k).2.2.2.1).toInt64 ∧ fsw (6 * k + 4) = (ft k).2.2.2.2.1 ∧ fsw (6 * k + 5) = (ft k).2.2.2.2.2
theorem Trl_s {n : Nat} {ft : Nat → Int64 × Int64 × Nat × Option Nat × Int64 × Int64} {fsw : Nat → Int64} (h : Trl n ft fsw) (x y : Int64) (ax : Nat) (mt : Option Nat) (u l_ : Int64) : Trl (n + 1) (va_up ft n (x, y, ax, mt, u, l_)) (gSw fsw (6 * n) x y (axI ax) (mI mt) u l_) := by
  intro k hk
  by_cases e : k = n
  · subst e
    rw [va_up_self]
    refine ⟨?_, ?_, ?_, ?_, ?_, ?_⟩ <;> simp [gSw, vp_updL]
  · rw [va_up_ne _ _ e]
    have := h k (by omega)
    refine ⟨?_, ?_, ?_, ?_, ?_, ?_⟩ <;> unfold gSw vp_updL <;> repeat rw [if_neg (by omega)]
    · exact this.1
    · exact this.2.1
    · exact this.2.2.1
    · exact this.2.2.2.1
    · exact this.2.2.2.2.1
    · exact this.2.2.2.2.2
def runR (C : Int64 × Int64 × Int64 × Int64 × Int64 × Int64 × Nat × (Nat → Int64 × Int64 × Nat × Option Nat × Int64 × Int64)) (G : (Nat → Int64) × Int64 × Int64 × Nat × (Nat → Int64)) : Prop := C.1 = G.1 0 ∧ C.2.1 = G.1 1 ∧ C.2.2.1 = G.1 0 + G.1 2 ∧ C.2.2.2.1 = G.1 1 + G.1 3 ∧ C.2.2.2.2.2.2.1 = G.2.2.2.1 ∧ G.2.2.2.1 ≤ 8 ∧ pOK G.1 ∧ Trl G.2.2.2.1 C.2.2.2.2.2.2.2 G.2.2.2.2
theorem near_ok {x w r : Int64} (hx : sm 10000 x) (hw : 1 ≤ w.toInt ∧ w.toInt ≤ 64) (hr : sm 20000 r) : (-1000000 ≤ (x + w + lMax 0 r).toInt ∧ (x + w + lMax 0 r).toInt ≤ 1000000) ∧ (-1000000 ≤ (x + lMin 0 r).toInt ∧ (x + lMin 0 r).toInt ≤ 1000000) := by
  rw [hi_i (pe_sm hx hw) hr, lo_i (sm_mono hx (by omega)) hr, pe_i hx hw]
  have := hx.1; have := hx.2; have := hr.1; have := hr.2
  omega
theorem rest_ok {x r b : Int64} {ax : Nat} (h : sm 10000 (x + b) ∧ rOK (x + b) 0 ∧ rOK (x + b) (r - b)) : rOK (x + b) (gRx ax r b) ∧ rOK (x + b) (gRy ax r b) := by
  refine ⟨?_, ?_⟩
  · unfold gRx; split
    · exact h.2.2
    · exact h.2.1
  · unfold gRy; split
    · exact h.2.2
    · exact h.2.1
theorem all_ok {x r : Int64} (hx : sm 10000 x) (hr : rOK x r) : sm 10000 (x + r) ∧ rOK (x + r) 0 := by
  have hx1 := hx.1
  have hx2 := hx.2
  have h1 := hr.1.1
  have h2 := hr.1.2
  have h3 := hr.2
  have e1 : (x + r).toInt = x.toInt + r.toInt := tI_add (by omega) (by omega)
  unfold rOK sm
  rw [e1, i0]
  omega
theorem run_eq {fsr : Nat → Int32} {fsl : Nat → Bool} (hs : ∀ i j, i < 24 → j < 24 → sBit (fsr j) i = fsl (24 * j + i)) : ∀ (k : Nat) (f : Nat → Int64) (rx ry : Int64) (n : Nat) (ft : Nat → Int64 × Int64 × Nat × Option Nat × Int64 × Int64) (fsw : Nat → Int64), pOK f → rOK (f 0) rx → rOK (f 1) ry → n + k ≤ 8 → Trl n ft fsw →
    cOK fsr k (f 0) (f 1) (f 0 + f 2) (f 1 + f 3) rx ry ∧ runR (cRun fsr k (f 0) (f 1) (f 0 + f 2) (f 1 + f 3) rx ry n ft) (gRun fsl k (f, rx, ry, n, fsw))
  | 0, f, rx, ry, n, ft, fsw, hp, hrx, hry, hn, hT => by
    rw [cRun_e (Or.inl rfl), gRun_e (Or.inl rfl)]
    exact ⟨trivial, rfl, rfl, rfl, rfl, rfl, (show n ≤ 8 by omega), hp, hT⟩
  | k + 1, f, rx, ry, n, ft, fsw, hp, hrx, hry, hn, hT => by
    by_cases hz : rx = 0 ∧ ry = 0
    · rw [cRun_e (Or.inr hz), gRun_e (Or.inr hz)]
      exact ⟨Or.inl hz, rfl, rfl, rfl, rfl, rfl, (show n ≤ 8 by omega), hp, hT⟩
    · have hG := cG_eq (fsr := fsr) (fsl := fsl) hp hrx.1 hry.1 hs
      have hb := gScan_b (fsl := fsl) hp hrx.1 hry.1 576 (Nat.le_refl _)
      have hlt := gScan_lt fsl f rx ry 576
      have hpos := gScan_pos fsl f rx ry 576
      rw [cRun_s hz, gRun_s hz]
      unfold cOK swT
      rw [hG]
      generalize gScan fsl f rx ry 576 = G at *
      rw [rB_eq hpos, rB_eq hpos, rK_eq hp hrx.1 ⟨hb.1, hb.2.1⟩ hb.2.2 hlt]
      have hx : sm 10000 (f 0 + gB G rx) ∧ rOK (f 0 + gB G rx) (gRx (gAx f rx G) rx (gB G rx)) := by
        unfold gB
        cases hg : G.1 with
        | none =>
          have := all_ok hp.1 hrx
          have ea : gAx f rx G = 2 := by unfold gAx; rw [hg]
          rw [ea]; exact this
        | some t =>
          have := sh_ok hp.1 hrx (sh_i hrx.1 ⟨hb.1, hb.2.1⟩ hb.2.2)
          exact ⟨this.1, (rest_ok this).1⟩
      have hy : sm 10000 (f 1 + gB G ry) ∧ rOK (f 1 + gB G ry) (gRy (gAx f rx G) ry (gB G ry)) := by
        unfold gB
        cases hg : G.1 with
        | none =>
          have := all_ok hp.2.1 hry
          have ea : gAx f rx G = 2 := by unfold gAx; rw [hg]
          rw [ea]; exact this
        | some t =>
          have := sh_ok hp.2.1 hry (sh_i hry.1 ⟨hb.1, hb.2.1⟩ hb.2.2)
          exact ⟨this.1, (rest_ok this).2⟩
      have ih := run_eq hs k (gPl f (gB G rx) (gB G ry)) (gRx (gAx f rx G) rx (gB G rx)) (gRy (gAx f rx G) ry (gB G ry)) (n + 1) (va_up ft n (f 0 + gB G rx, f 1 + gB G ry, gAx f rx G, G.1, G.2.1, G.2.2)) (gSw fsw (6 * n) (f 0 + gB G rx) (f 1 + gB G ry) (axI (gAx f rx G)) (mI G.1) G.2.1 G.2.2)
        ⟨hx.1, hy.1, hp.2.2.1, hp.2.2.2⟩ hx.2 hy.2 (by omega) (Trl_s hT _ _ _ _ _ _)
      have q0 : gPl f (gB G rx) (gB G ry) 0 = f 0 + gB G rx := rfl
      have q1 : gPl f (gB G rx) (gB G ry) 1 = f 1 + gB G ry := rfl
      have q2 : gPl f (gB G rx) (gB G ry) 2 = f 2 := rfl
      have q3 : gPl f (gB G rx) (gB G ry) 3 = f 3 := rfl
      rw [q0, q1, q2, q3] at ih
      rw [q0, q1]
      have s0 : f 0 + f 2 + gB G rx = f 0 + gB G rx + f 2 := by rw [Int64.add_assoc, Int64.add_comm (f 2), ← Int64.add_assoc]
      have s1 : f 1 + f 3 + gB G ry = f 1 + gB G ry + f 3 := by rw [Int64.add_assoc, Int64.add_comm (f 3), ← Int64.add_assoc]
      rw [s0, s1]
      have nx := near_ok hp.1 hp.2.2.1 hrx.1
      have ny := near_ok hp.2.1 hp.2.2.2 hry.1
      exact ⟨Or.inr ⟨⟨ny.1, nx.2, nx.1, ny.2⟩, ih.1⟩, ih.2⟩
/-! a place that is blocked -/
theorem over_iff {x y w h : Int64} (hx : sm 10000 x) (hy : sm 10000 y) (hw : 1 ≤ w.toInt ∧ w.toInt ≤ 64) (hh : 1 ≤ h.toInt ∧ h.toInt ≤ 64) {i j : Nat} (hi : i < 24) (hj : j < 24) : cOver x y (x + w) (y + h) i j ↔ mOver x y w h (24 * j + i) := by
  have e1 : (24 * j + i) % 24 = i := by omega
  have e2 : (24 * j + i) / 24 = j := by omega
  unfold cOver mOver
  rw [e1, e2, tl_m hi, tl_m hj, tl_p hi, tl_p hj]
  have s1 : sm 4398046511104 (1 : Int64) := by unfold sm; decide
  have s0 : sm 4398046511104 (0 : Int64) := by unfold sm; decide
  have z0 : sm 100000 (0 : Int64) := by unfold sm; decide
  rw [comI_i (sm_mono hx (by omega)) (sm3 (pe_sm hx hw)) (sm3 (tl_sm (by omega))) (sm3 (tl_sm (by omega))) z0 s0 s1 (by decide), comI_i (sm_mono hy (by omega)) (sm3 (pe_sm hy hh)) (sm3 (tl_sm (by omega))) (sm3 (tl_sm (by omega))) z0 s0 s1 (by decide)]
  unfold AxO
  rw [i0, i1, Int64.lt_iff_toInt_lt, Int64.lt_iff_toInt_lt, Int64.lt_iff_toInt_lt, Int64.lt_iff_toInt_lt, t64 (by omega), t64 (by omega), t64 (by omega), t64 (by omega), pe_i hx hw, pe_i hy hh]
  omega
theorem over_in {x y w h : Int64} (hx : sm 10000 x) (hy : sm 10000 y) (hw : 1 ≤ w.toInt ∧ w.toInt ≤ 64) (hh : 1 ≤ h.toInt ∧ h.toInt ≤ 64) {i j : Nat} (hi : i < 24) (hj : j < 24) (ho : cOver x y (x + w) (y + h) i j) : (tFt x ≤ i ∧ i < tLt (x + w)) ∧ (tFt y ≤ j ∧ j < tLt (y + h)) := by
  unfold cOver at ho
  rw [tl_m hi, tl_m hj, tl_p hi, tl_p hj, Int64.lt_iff_toInt_lt, Int64.lt_iff_toInt_lt, Int64.lt_iff_toInt_lt, Int64.lt_iff_toInt_lt, t64 (by omega), t64 (by omega), t64 (by omega), t64 (by omega), pe_i hx hw, pe_i hy hh] at ho
  unfold tFt tLt
  rw [pe_i hx hw, pe_i hy hh]
  omega
theorem blocked_iff {fsr : Nat → Int32} {fsl : Nat → Bool} (hs : ∀ i j, i < 24 → j < 24 → sBit (fsr j) i = fsl (24 * j + i)) {x y w h : Int64} (hx : sm 10000 x) (hy : sm 10000 y) (hw : 1 ≤ w.toInt ∧ w.toInt ≤ 64) (hh : 1 ≤ h.toInt ∧ h.toInt ≤ 64) :
    cBlocked fsr x y (x + w) (y + h) ↔ ∃ t, t < 576 ∧ fsl t = true ∧ mOver x y w h t := by
  constructor
  · rintro ⟨j, h1, h2, i, h3, h4, h5, h6⟩
    have hj : j < 24 := by have := tLt_le (y + h); omega
    have hi : i < 24 := by have := tLt_le (x + w); omega
    exact ⟨24 * j + i, by omega, by rw [← hs i j hi hj]; exact h5, (over_iff hx hy hw hh hi hj).mp h6⟩
  · rintro ⟨t, h1, h2, h3⟩
    have hj : t / 24 < 24 := by omega
    have hi : t % 24 < 24 := by omega
    have e : 24 * (t / 24) + t % 24 = t := by omega
    have ho := (over_iff hx hy hw hh hi hj).mpr (by rw [e]; exact h3)
    have hn := over_in hx hy hw hh hi hj ho
    exact ⟨t / 24, hn.2.1, hn.2.2, t % 24, hn.1.1, hn.1.2, by rw [hs _ _ hi hj, e]; exact h2, ho⟩
/-- the bit of a tile turned -/
theorem sBit_i (x : Int32) {i : Nat} (hi : i < 24) : sBit x i = x.toBitVec.getLsbD i := by
  have hb : ∀ v : BitVec 32, decide (v &&& 1#32 = 1#32) = v.getLsbD 0 := by
    intro v
    cases h : v.getLsbD 0 with
    | true => 
      apply decide_eq_true
      apply BitVec.eq_of_getLsbD_eq
      intro k hk
      rw [BitVec.getLsbD_and, BitVec.getLsbD_one]
      by_cases c : k = 0
      · subst c; rw [h]; simp
      · simp [c]
    | false =>
      apply decide_eq_false
      intro z
      have h2 : (v &&& 1#32).getLsbD 0 = (1#32).getLsbD 0 := by rw [z]
      rw [BitVec.getLsbD_and, h, Bool.false_and] at h2
      exact absurd h2 (by decide)
  have key : ∀ i : Fin 24, ((nI i.val &&& 31 : Int32).toBitVec.smod 32) = BitVec.ofNat 32 i.val := by decide +kernel
  unfold sBit
  have e1 : ((x >>> (nI i &&& 31)) &&& nI 1 = nI 1) ↔ ((x >>> (nI i &&& 31)).toBitVec &&& 1#32 = 1#32) := by
    rw [← Int32.toBitVec_inj, Int32.toBitVec_and]; exact Iff.rfl
  rw [decide_eq_decide.mpr e1, hb, Int32.toBitVec_shiftRight, key ⟨i, hi⟩]
  rw [BitVec.sshiftRight_eq', BitVec.getLsbD_sshiftRight]
  have : (BitVec.ofNat 32 i).toNat = i := by rw [BitVec.toNat_ofNat]; omega
  rw [this]
  simp
  omega
