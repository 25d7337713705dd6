/-! a step never leaves the player over a tile -/
theorem low_cross {u l_ : Int64} (h0 : 0 ≤ u.toInt) (h1 : 0 < l_.toInt) : (mTu u l_).toInt * l_.toInt = u.toInt * (mTl u l_).toInt ∧ 0 < (mTl u l_).toInt := by
  unfold mTu mTl
  have e1 : u.toInt = (u.toInt.toNat : Int) := by omega
  have e2 : l_.toInt = (l_.toInt.toNat : Int) := by omega
  have b1 : u.toInt.toNat < 2 ^ 63 := by have := Int64.toInt_lt u; omega
  have b2 : l_.toInt.toNat < 2 ^ 63 := by have := Int64.toInt_lt l_; omega
  have b3 : 0 < l_.toInt.toNat := by omega
  generalize u.toInt.toNat = a at *
  generalize l_.toInt.toNat = b at *
  have hg : 0 < Nat.gcd a b := Nat.gcd_pos_of_pos_right a b3
  have d1 : Nat.gcd a b * (a / Nat.gcd a b) = a := Nat.mul_div_cancel' (Nat.gcd_dvd_left a b)
  have d2 : Nat.gcd a b * (b / Nat.gcd a b) = b := Nat.mul_div_cancel' (Nat.gcd_dvd_right a b)
  have d3 : 0 < b / Nat.gcd a b := Nat.div_pos (Nat.gcd_le_right a b3) hg
  have l1 : a / Nat.gcd a b ≤ a := Nat.div_le_self _ _
  have l2 : b / Nat.gcd a b ≤ b := Nat.div_le_self _ _
  generalize a / Nat.gcd a b = x at *
  generalize b / Nat.gcd a b = y at *
  generalize Nat.gcd a b = g at *
  rw [pk_lT (by omega), pk_lT (by omega), e1, e2, ← d1, ← d2]
  refine ⟨?_, by omega⟩
  rw [Int.natCast_mul, Int.natCast_mul, Int.mul_left_comm, Int.mul_assoc]
theorem open_t {lw hg sp mw mg mp p q : Int} (hp : 0 < p) (hpq : p ≤ q) (h1 : AxO lw hg sp p q) (h2 : AxO mw mg mp p q) : ∃ p' q' : Int, 0 < q' ∧ 0 < p' ∧ p' < q' ∧ p' * q < p * q' ∧ AxO lw hg sp p' q' ∧ AxO mw mg mp p' q' := by
  have key : ∀ (K lw hg sp : Int), sp < K → -sp < K → 0 < K → AxO lw hg sp p q → AxO lw hg sp (p * K - 1) (q * K) := by
    intro K lw hg sp k1 k2 k3 h
    unfold AxO at *
    have a1 := Int.mul_le_mul_of_nonneg_left (show 1 ≤ sp * p - lw * q by omega) (show 0 ≤ K by omega)
    have a2 := Int.mul_le_mul_of_nonneg_left (show 1 ≤ hg * q - sp * p by omega) (show 0 ≤ K by omega)
    have e1 : K * (sp * p - lw * q) = sp * (p * K) - lw * (q * K) := by clear a1 a2; grind
    have e2 : K * (hg * q - sp * p) = hg * (q * K) - sp * (p * K) := by clear a1 a2; grind
    have e3 : sp * (p * K - 1) = sp * (p * K) - sp := by clear a1 a2; grind
    rw [e1, Int.mul_one] at a1
    rw [e2, Int.mul_one] at a2
    rw [e3]
    omega
  obtain ⟨K, k0, k1, k2, k3, k4⟩ : ∃ K : Int, 2 ≤ K ∧ sp < K ∧ -sp < K ∧ mp < K ∧ -mp < K := ⟨(sp.natAbs : Int) + (mp.natAbs : Int) + 2, by omega, by omega, by omega, by omega, by omega⟩
  have g1 := Int.mul_pos hp (show 0 < K - 1 by omega)
  rw [Int.mul_sub, Int.mul_one] at g1
  have g2 := Int.mul_le_mul_of_nonneg_right hpq (show 0 ≤ K by omega)
  have g3 := Int.mul_pos (show 0 < q by omega) (show 0 < K by omega)
  refine ⟨p * K - 1, q * K, g3, by omega, by omega, ?_, key K lw hg sp k1 k2 (by omega) h1, key K mw mg mp k3 k4 (by omega) h2⟩
  rw [Int.sub_mul, Int.one_mul, show p * (q * K) = p * K * q by rw [Int.mul_assoc, Int.mul_comm q K]]
  omega
theorem inf_le {f : Nat → Int64} {rx ry : Int64} (hp : pOK f) (hrx : sm 20000 rx) (hry : sm 20000 ry) {t : Nat} (ht : t < 576) {p q : Int} (hq : 0 < q) (h0 : 0 < p) (h1 : p < q) (hs : StO (f 0) (f 1) (f 0 + f 2) (f 1 + f 3) (nI (16 * (t % 24))).toInt64 (nI (16 * (t / 24))).toInt64 (nI ((16 * (t % 24)) + 16)).toInt64 (nI ((16 * (t / 24)) + 16)).toInt64 rx ry p q) : gF f rx ry t ∧ (gU f rx ry t).toInt * q ≤ p * (gL f rx ry t).toInt := by
  have R := refI (sm_mono hp.1 (show (10000 : Int) ≤ 100000 by omega)) (sm_mono hp.2.1 (by omega)) (sm3 (pe_sm hp.1 hp.2.2.1)) (sm3 (pe_sm hp.2.1 hp.2.2.2)) (sm3 (tl_sm (n := 16 * (t % 24)) (by omega))) (sm3 (tl_sm (n := 16 * (t / 24)) (by omega))) (sm3 (tl_sm (n := 16 * (t % 24) + 16) (by omega))) (sm3 (tl_sm (n := 16 * (t / 24) + 16) (by omega))) (sm_mono hrx (by omega)) (sm_mono hry (by omega))
  have hF : gF f rx ry t := R.1.mpr ⟨p, q, hq, h0, h1, hs⟩
  refine ⟨hF, ?_⟩
  obtain ⟨u, l_, a1, a2, a3, a4, a5⟩ := R.2.1 hF
  have lc := low_cross a1 a2
  have i := a5.2.1 p q hq ⟨h0, h1, hs⟩
  unfold gU gL
  rw [a3, a4]
  generalize (mTu u l_).toInt = U at *
  generalize (mTl u l_).toInt = L at *
  generalize u.toInt = v at *
  generalize l_.toInt = w at *
  have j := Int.mul_le_mul_of_nonneg_right i (show 0 ≤ L by omega)
  have e1 : v * q * L = w * (U * q) := by rw [Int.mul_assoc, Int.mul_comm q L, ← Int.mul_assoc, ← lc.1, Int.mul_assoc, Int.mul_left_comm]
  have e2 : p * w * L = w * (p * L) := by rw [Int.mul_comm p w, Int.mul_assoc]
  rw [e1, e2] at j
  exact Int.le_of_mul_le_mul_left j a2
theorem gMin {fsl : Nat → Bool} {f : Nat → Int64} {rx ry : Int64} (hp : pOK f) (hrx : sm 20000 rx) (hry : sm 20000 ry) : ∀ t, t ≤ 576 → ((gScan fsl f rx ry t).1 = none → ∀ s, s < t → fsl s = true → ¬ gF f rx ry s) ∧ (∀ t0, (gScan fsl f rx ry t).1 = some t0 → ∀ s, s < t → fsl s = true → gF f rx ry s → (gScan fsl f rx ry t).2.1.toInt * (gL f rx ry s).toInt ≤ (gU f rx ry s).toInt * (gScan fsl f rx ry t).2.2.toInt)
  | 0, _ => ⟨fun _ s hs => by omega, fun _ _ s hs => by omega⟩
  | t + 1, ht => by
    obtain ⟨i1, i2⟩ := gMin (fsl := fsl) hp hrx hry t (by omega)
    have gb := gScan_b (fsl := fsl) hp hrx hry t (by omega)
    have bb : ∀ s, s < 576 → gF f rx ry s → 0 < (gL f rx ry s).toInt ∧ (gL f rx ry s).toInt ≤ 1048576 ∧ 0 ≤ (gU f rx ry s).toInt ∧ (gU f rx ry s).toInt ≤ (gL f rx ry s).toInt := fun s hs hF =>
      cI_b (sm_mono hp.1 (by omega)) (sm_mono hp.2.1 (by omega)) (sm3 (pe_sm hp.1 hp.2.2.1)) (sm3 (pe_sm hp.2.1 hp.2.2.2)) (sm3 (tl_sm (by omega))) (sm3 (tl_sm (by omega))) (sm3 (tl_sm (by omega))) (sm3 (tl_sm (by omega))) (sm_mono hrx (by omega)) (sm_mono hry (by omega)) hF
    by_cases c : fsl t = true ∧ gF f rx ry t ∧ ((gScan fsl f rx ry t).1 = none ∨ gU f rx ry t * (gScan fsl f rx ry t).2.2 < (gScan fsl f rx ry t).2.1 * gL f rx ry t)
    · have e : gScan fsl f rx ry (t + 1) = (some t, gU f rx ry t, gL f rx ry t) := by rw [gScan, if_pos (pB_t c)]
      rw [e]
      have bt' := bb t (by omega) c.2.1
      refine ⟨fun z => by simp at z, fun t0 _ s hs h1 h2 => ?_⟩
      show (gU f rx ry t).toInt * (gL f rx ry s).toInt ≤ (gU f rx ry s).toInt * (gL f rx ry t).toInt
      by_cases es : s = t
      · rw [es]; exact Int.le_refl _
      · have bs := bb s (by omega) h2
        rcases c.2.2 with z | z
        · exact absurd h2 (i1 z s (by omega) h1)
        · cases hg : (gScan fsl f rx ry t).1 with
          | none => exact absurd h2 (i1 hg s (by omega) h1)
          | some t0 =>
            have old := i2 t0 hg s (by omega) h1 h2
            rw [pr_lt ⟨by omega, by omega⟩ ⟨by omega, by omega⟩ ⟨by omega, by omega⟩ ⟨by omega, by omega⟩] at z
            exact Int.le_of_lt (fr_lt_le bt'.1 gb.1 bs.1 z old)
    · have e : gScan fsl f rx ry (t + 1) = gScan fsl f rx ry t := by rw [gScan, if_neg (fun w => c (pB_iff.mp w))]
      rw [e]
      refine ⟨fun z s hs h1 h2 => ?_, fun t0 z s hs h1 h2 => ?_⟩
      · by_cases es : s = t
        · subst es; exact c ⟨h1, h2, Or.inl z⟩
        · exact i1 z s (by omega) h1 h2
      · by_cases es : s = t
        · subst es
          have bs := bb s (by omega) h2
          have : ¬ gU f rx ry s * (gScan fsl f rx ry s).2.2 < (gScan fsl f rx ry s).2.1 * gL f rx ry s := fun w => c ⟨h1, h2, Or.inr w⟩
          rw [pr_lt ⟨by omega, by omega⟩ ⟨by omega, by omega⟩ ⟨by omega, by omega⟩ ⟨by omega, by omega⟩] at this
          omega
        · exact i2 t0 z s (by omega) h1 h2
def noOv (fsl : Nat → Bool) (f : Nat → Int64) : Prop := ∀ t, t < 576 → fsl t = true → ¬ mOver (f 0) (f 1) (f 2) (f 3) t
theorem mOver_i {x y w h : Int64} (hx : sm 10000 x) (hy : sm 10000 y) (hw : 1 ≤ w.toInt ∧ w.toInt ≤ 64) (hh : 1 ≤ h.toInt ∧ h.toInt ≤ 64) {t : Nat} (ht : t < 576) : mOver x y w h t ↔ ((((16 * (t % 24) : Nat) : Int) < x.toInt + w.toInt ∧ x.toInt < ((16 * (t % 24) + 16 : Nat) : Int)) ∧ (((16 * (t / 24) : Nat) : Int) < y.toInt + h.toInt ∧ y.toInt < ((16 * (t / 24) + 16 : Nat) : Int))) := by
  have o := over_iff hx hy hw hh (i := t % 24) (j := t / 24) (by omega) (by omega)
  rw [show 24 * (t / 24) + t % 24 = t by omega] at o
  rw [← o]
  unfold cOver
  rw [tl_m (by omega), tl_m (by omega), tl_p (by omega), tl_p (by omega), Int64.lt_iff_toInt_lt, Int64.lt_iff_toInt_lt, Int64.lt_iff_toInt_lt, Int64.lt_iff_toInt_lt, t64 (by omega), t64 (by omega), t64 (by omega), t64 (by omega), pe_i hx hw, pe_i hy hh]
  omega
/-- an axis: what is overlapped at the rounded place is overlapped at the place itself -/
theorem ax_round {x w r u l t0 t1 b : Int} (hl : 0 < l) (hb : b = (r * u).tdiv l) (h1 : t0 < x + b + w) (h2 : x + b < t1) : AxO (t0 - (x + w)) (t1 - x) r u l := by
  unfold AxO
  have tq := Int.mul_tdiv_add_tmod (r * u) l
  rw [← hb, Int.mul_comm l b] at tq
  have m1 : (r * u).tmod l < l := by have := Int.tmod_lt_of_pos (r * u) hl; omega
  have m2 : -l < (r * u).tmod l := by have := Int.tmod_lt_of_pos (-(r * u)) hl; rw [Int.neg_tmod] at this; omega
  have a1 : (t0 - (x + w)) * l + l ≤ b * l := by
    have := Int.mul_le_mul_of_nonneg_right (show t0 - (x + w) + 1 ≤ b by omega) (show 0 ≤ l by omega)
    rw [Int.add_mul, Int.one_mul] at this; omega
  have a2 : b * l + l ≤ (t1 - x) * l := by
    have := Int.mul_le_mul_of_nonneg_right (show b + 1 ≤ t1 - x by omega) (show 0 ≤ l by omega)
    rw [Int.add_mul, Int.one_mul] at this; omega
  omega
theorem sh_e {r u l_ : Int64} (hr : sm 20000 r) (hl : 0 < l_.toInt ∧ l_.toInt ≤ 1048576) (hu : 0 ≤ u.toInt ∧ u.toInt ≤ l_.toInt) : (r * u / l_).toInt = (r.toInt * u.toInt).tdiv l_.toInt := by
  have hb := tdiv_b hu.1 hu.2 hl.1 r.toInt
  rw [Int64.toInt_div, pr_i (sm_mono hr (by omega)) ⟨by omega, by omega⟩]
  have := hr.1
  have := hr.2
  by_cases c : 0 ≤ r.toInt
  · have := hb.1 c; exact bm64 (by omega) (by omega)
  · have := hb.2 (by omega); exact bm64 (by omega) (by omega)
theorem noOv_sweep {fsl : Nat → Bool} {f : Nat → Int64} {rx ry : Int64} (hp : pOK f) (hrx : rOK (f 0) rx) (hry : rOK (f 1) ry) (hn : noOv fsl f) : noOv fsl (gPl f (gB (gScan fsl f rx ry 576) rx) (gB (gScan fsl f rx ry 576) ry)) := by
  intro t ht hs hov
  have gb := gScan_b (fsl := fsl) hp hrx.1 hry.1 576 (Nat.le_refl _)
  have gm := gMin (fsl := fsl) hp hrx.1 hry.1 576 (Nat.le_refl _)
  have q0 : gPl f (gB (gScan fsl f rx ry 576) rx) (gB (gScan fsl f rx ry 576) ry) 0 = f 0 + gB (gScan fsl f rx ry 576) rx := rfl
  have q1 : gPl f (gB (gScan fsl f rx ry 576) rx) (gB (gScan fsl f rx ry 576) ry) 1 = f 1 + gB (gScan fsl f rx ry 576) ry := rfl
  have q2 : gPl f (gB (gScan fsl f rx ry 576) rx) (gB (gScan fsl f rx ry 576) ry) 2 = f 2 := rfl
  have q3 : gPl f (gB (gScan fsl f rx ry 576) rx) (gB (gScan fsl f rx ry 576) ry) 3 = f 3 := rfl
  rw [q0, q1, q2, q3] at hov
  -- a time u / l, the move by then
  obtain ⟨u, l, hl, hu0, hul, hbx, hby, hend⟩ : ∃ u l : Int, 0 < l ∧ 0 ≤ u ∧ u ≤ l ∧ (gB (gScan fsl f rx ry 576) rx).toInt = (rx.toInt * u).tdiv l ∧ (gB (gScan fsl f rx ry 576) ry).toInt = (ry.toInt * u).tdiv l ∧ (∀ p q : Int, 0 < q → 0 < p → p < q → p * l < u * q → ¬ StO (f 0) (f 1) (f 0 + f 2) (f 1 + f 3) (nI (16 * (t % 24))).toInt64 (nI (16 * (t / 24))).toInt64 (nI ((16 * (t % 24)) + 16)).toInt64 (nI ((16 * (t / 24)) + 16)).toInt64 rx ry p q) := by
    generalize gScan fsl f rx ry 576 = G at *
    cases hg : G.1 with
    | none =>
      refine ⟨1, 1, by omega, by omega, by omega, ?_, ?_, ?_⟩
      · unfold gB; rw [hg, Int.mul_one, Int.tdiv_one]
      · unfold gB; rw [hg, Int.mul_one, Int.tdiv_one]
      · intro p q a b d _ z
        exact gm.1 hg t ht hs (inf_le hp hrx.1 hry.1 ht a b d z).1
    | some t0 =>
      refine ⟨G.2.1.toInt, G.2.2.toInt, gb.1, gb.2.2.1, gb.2.2.2, ?_, ?_, ?_⟩
      · unfold gB; rw [hg]; exact sh_e hrx.1 ⟨gb.1, gb.2.1⟩ gb.2.2
      · unfold gB; rw [hg]; exact sh_e hry.1 ⟨gb.1, gb.2.1⟩ gb.2.2
      · intro p q a b d lt z
        obtain ⟨z1, z2⟩ := inf_le hp hrx.1 hry.1 ht a b d z
        have z3 := gm.2 t0 hg t ht hs z1
        have bs : 0 < (gL f rx ry t).toInt := (cI_b (sm_mono hp.1 (by omega)) (sm_mono hp.2.1 (by omega)) (sm3 (pe_sm hp.1 hp.2.2.1)) (sm3 (pe_sm hp.2.1 hp.2.2.2)) (sm3 (tl_sm (by omega))) (sm3 (tl_sm (by omega))) (sm3 (tl_sm (by omega))) (sm3 (tl_sm (by omega))) (sm_mono hrx.1 (by omega)) (sm_mono hry.1 (by omega)) z1).1
        have := fr_le_le gb.1 bs a z3 z2
        omega
  have tb : ∀ r : Int, (0 ≤ r → 0 ≤ (r * u).tdiv l ∧ (r * u).tdiv l ≤ r) ∧ (r ≤ 0 → r ≤ (r * u).tdiv l ∧ (r * u).tdiv l ≤ 0) := tdiv_b hu0 hul hl
  have bx := sh_ok hp.1 hrx (b := gB (gScan fsl f rx ry 576) rx) (by rw [hbx]; exact tb _)
  have by' := sh_ok hp.2.1 hry (b := gB (gScan fsl f rx ry 576) ry) (by rw [hby]; exact tb _)
  rw [mOver_i bx.1 by'.1 hp.2.2.1 hp.2.2.2 ht] at hov
  have ex : (f 0 + gB (gScan fsl f rx ry 576) rx).toInt = (f 0).toInt + (rx.toInt * u).tdiv l := by
    rw [← hbx]; have := tb rx.toInt; have := hp.1.1; have := hp.1.2; have := hrx.1.1; have := hrx.1.2
    exact tI_add (by rw [hbx]; omega) (by rw [hbx]; omega)
  have ey : (f 1 + gB (gScan fsl f rx ry 576) ry).toInt = (f 1).toInt + (ry.toInt * u).tdiv l := by
    rw [← hby]; have := tb ry.toInt; have := hp.2.1.1; have := hp.2.1.2; have := hry.1.1; have := hry.1.2
    exact tI_add (by rw [hby]; omega) (by rw [hby]; omega)
  rw [ex, ey] at hov
  have A := ax_round hl rfl hov.1.1 hov.1.2
  have B := ax_round hl rfl hov.2.1 hov.2.2
  have wx := hp.2.2.1
  have wy := hp.2.2.2
  by_cases z : u = 0
  · subst z
    apply hn t ht hs
    rw [mOver_i hp.1 hp.2.1 hp.2.2.1 hp.2.2.2 ht]
    unfold AxO at A B
    rw [Int.mul_zero] at A B
    have k : ∀ a : Int, 0 < a * l → 0 < a := fun a h => ps_of hl (by rw [Int.mul_comm]; exact h)
    have k' : ∀ a : Int, a * l < 0 → a < 0 := fun a h => by have := k (-a) (by rw [Int.neg_mul]; omega); omega
    have c1 := k' _ A.1
    have c2 := k _ A.2
    have c3 := k' _ B.1
    have c4 := k _ B.2
    omega
  · obtain ⟨p', q', g1, g2, g3, g4, g5, g6⟩ := open_t (show 0 < u by omega) hul A B
    refine hend p' q' g1 g2 g3 g4 ⟨⟨⟨?_, ?_⟩, ?_⟩, ⟨⟨?_, ?_⟩, ?_⟩⟩
    · rw [pe_i hp.1 hp.2.2.1]; omega
    · rw [t64 (by omega), t64 (by omega)]; omega
    · rw [t64 (by omega), t64 (by omega), pe_i hp.1 hp.2.2.1]; exact g5
    · rw [pe_i hp.2.1 hp.2.2.2]; omega
    · rw [t64 (by omega), t64 (by omega)]; omega
    · rw [t64 (by omega), t64 (by omega), pe_i hp.2.1 hp.2.2.2]; exact g6
theorem noOv_run {fsl : Nat → Bool} : ∀ (k : Nat) (f : Nat → Int64) (rx ry : Int64) (n : Nat) (fsw : Nat → Int64), pOK f → rOK (f 0) rx → rOK (f 1) ry → noOv fsl f → noOv fsl (gRun fsl k (f, rx, ry, n, fsw)).1
  | 0, f, rx, ry, n, fsw, hp, hrx, hry, h => by rw [gRun_e (Or.inl rfl)]; exact h
  | k + 1, f, rx, ry, n, fsw, hp, hrx, hry, h => by
    by_cases hz : rx = 0 ∧ ry = 0
    · rw [gRun_e (Or.inr hz)]; exact h
    · have h' := noOv_sweep hp hrx hry h
      have hb := gScan_b (fsl := fsl) hp hrx.1 hry.1 576 (Nat.le_refl _)
      rw [gRun_s hz]
      generalize gScan fsl f rx ry 576 = G at *
      have hx : sm 10000 (f 0 + gB G rx) ∧ rOK (f 0 + gB G rx) (gRx (gAx f rx G) rx (gB G rx)) := by
        unfold gB
        cases hg : G.1 with
        | none =>
          have := all_ok hp.1 hrx
          have ea : gAx f rx G = 2 := by unfold gAx; rw [hg]
          rw [ea]; exact this
        | some t =>
          have := sh_ok hp.1 hrx (sh_i hrx.1 ⟨hb.1, hb.2.1⟩ hb.2.2)
          exact ⟨this.1, (rest_ok this).1⟩
      have hy : sm 10000 (f 1 + gB G ry) ∧ rOK (f 1 + gB G ry) (gRy (gAx f rx G) ry (gB G ry)) := by
        unfold gB
        cases hg : G.1 with
        | none =>
          have := all_ok hp.2.1 hry
          have ea : gAx f rx G = 2 := by unfold gAx; rw [hg]
          rw [ea]; exact this
        | some t =>
          have := sh_ok hp.2.1 hry (sh_i hry.1 ⟨hb.1, hb.2.1⟩ hb.2.2)
          exact ⟨this.1, (rest_ok this).2⟩
      exact noOv_run k (gPl f (gB G rx) (gB G ry)) _ _ _ _ ⟨hx.1, hy.1, hp.2.2.1, hp.2.2.2⟩ hx.2 hy.2 h'
/-- the bit of a tile turned -/
theorem bit_turn (x : Int32) {i k : Nat} (hi : i < 24) (hk : k < 24) : sBit (x ^^^ ((nI 1) <<< ((nI i) &&& 31))) k = if k = i then !sBit x i else sBit x k := by
  rw [sBit_i _ hk, sBit_i _ hi, sBit_i _ hk, Int32.toBitVec_xor, BitVec.getLsbD_xor]
  have key : ∀ i : Fin 24, ∀ k : Fin 24, ((nI 1) <<< ((nI i.val) &&& 31) : Int32).toBitVec.getLsbD k.val = decide (k.val = i.val) := by decide +kernel
  rw [key ⟨i, hi⟩ ⟨k, hk⟩]
  by_cases c : k = i
  · subst c; rw [if_pos rfl]; simp
  · rw [if_neg c]; simp [c]
