/-! tiles: the tiles in reach stand for all -/
def scanF {Z : Type} (f : Nat → Z → Z) : Nat → Nat → Z → Z
  | _, 0, z => z
  | a, n + 1, z => scanF f (a + 1) n (f a z)
theorem scanF_add {Z : Type} (f : Nat → Z → Z) : ∀ (m a n : Nat) (z : Z), scanF f a (m + n) z = scanF f (a + m) n (scanF f a m z)
  | 0, a, n, z => by rw [Nat.zero_add, Nat.add_zero, scanF]
  | m + 1, a, n, z => by
    rw [show m + 1 + n = (m + n) + 1 by omega, scanF, scanF_add f m (a + 1) n, scanF, show a + 1 + m = a + (m + 1) by omega]
theorem scanF_id {Z : Type} {f : Nat → Z → Z} : ∀ (n a : Nat) (z : Z), (∀ t, a ≤ t → t < a + n → ∀ z, f t z = z) → scanF f a n z = z
  | 0, a, z, _ => by rw [scanF]
  | n + 1, a, z, h => by
    rw [scanF, h a (Nat.le_refl a) (by omega)]
    exact scanF_id n (a + 1) z (fun t h1 h2 => h t (by omega) (by omega))
theorem scanF_congr {Z : Type} {f g : Nat → Z → Z} : ∀ (n a : Nat) (z : Z), (∀ t, a ≤ t → t < a + n → ∀ z, f t z = g t z) → scanF f a n z = scanF g a n z
  | 0, a, z, _ => by rw [scanF, scanF]
  | n + 1, a, z, h => by
    rw [scanF, scanF, h a (Nat.le_refl a) (by omega)]
    exact scanF_congr n (a + 1) _ (fun t h1 h2 => h t (by omega) (by omega))
theorem scanF_in {Z : Type} {f : Nat → Z → Z} {fi li b : Nat} (hl : li ≤ 24) (hs : ∀ i, i < 24 → (i < fi ∨ li ≤ i) → ∀ z, f (b + i) z = z) (z : Z) : scanF f b 24 z = scanF f (b + fi) (li - fi) z := by
  by_cases h : fi < li
  · rw [show 24 = fi + ((li - fi) + (24 - li)) by omega, scanF_add, scanF_add]
    rw [scanF_id fi b z (fun t h1 h2 w => by have := hs (t - b) (by omega) (Or.inl (by omega)) w; rwa [show b + (t - b) = t by omega] at this)]
    rw [scanF_id (24 - li) _ _ (fun t h1 h2 w => by have := hs (t - b) (by omega) (Or.inr (by omega)) w; rwa [show b + (t - b) = t by omega] at this)]
  · rw [show li - fi = 0 by omega, scanF]
    exact scanF_id 24 b z (fun t h1 h2 w => by have := hs (t - b) (by omega) (by omega) w; rwa [show b + (t - b) = t by omega] at this)
theorem scanF_rows {Z : Type} (f : Nat → Z → Z) : ∀ (n a : Nat) (z : Z), scanF f (24 * a) (24 * n) z = scanF (fun j w => scanF f (24 * j) 24 w) a n z
  | 0, a, z => by rw [Nat.mul_zero, scanF, scanF]
  | n + 1, a, z => by
    rw [show 24 * (n + 1) = 24 + 24 * n by omega, scanF_add, show 24 * a + 24 = 24 * (a + 1) by omega, scanF_rows f n (a + 1)]
    rfl
/-- one tile of the reference's scan -/
noncomputable def gSt (fsl : Nat → Bool) (fpl : Nat → Int64) (rx ry : Int64) (t : Nat) (z : Option Nat × Int64 × Int64) : Option Nat × Int64 × Int64 := if pB (fsl t = true ∧ gF fpl rx ry t ∧ (z.1 = none ∨ gU fpl rx ry t * z.2.2 < z.2.1 * gL fpl rx ry t)) then (some t, gU fpl rx ry t, gL fpl rx ry t) else z
theorem gScan_scanF (fsl : Nat → Bool) (fpl : Nat → Int64) (rx ry : Int64) : ∀ n, gScan fsl fpl rx ry n = scanF (gSt fsl fpl rx ry) 0 n (none, 1, 1)
  | 0 => by rw [gScan, scanF]
  | n + 1 => by
    rw [scanF_add (gSt fsl fpl rx ry) n 0 1, ← gScan_scanF fsl fpl rx ry n, gScan, scanF, scanF, Nat.zero_add, gSt]
theorem gSt_n {fsl : Nat → Bool} {fpl : Nat → Int64} {rx ry : Int64} {t : Nat} (h : ¬ (fsl t = true ∧ gF fpl rx ry t)) (z : Option Nat × Int64 × Int64) : gSt fsl fpl rx ry t z = z := by
  unfold gSt; rw [if_neg (fun w => h ⟨(pB_iff.mp w).1, (pB_iff.mp w).2.1⟩)]
/-! the places of tiles -/
theorem t64 {n : Nat} (h : n < 2 ^ 31) : ((nI n).toInt64).toInt = (n : Int) := by rw [Int32.toInt_toInt64, nI_toInt h]
theorem i16 : (16 : Int64).toInt = 16 := by decide
theorem tl_m {i : Nat} (hi : i < 24) : 16 * (nI i).toInt64 = (nI (16 * i)).toInt64 := by
  apply Int64.toInt_inj.mp
  have h1 := t64 (n := i) (by omega)
  rw [tI_mul (by rw [i16, h1]; omega) (by rw [i16, h1]; omega), i16, h1, t64 (by omega)]; omega
theorem tl_m2 {i : Nat} (hi : i < 24) : (nI i).toInt64 * 16 = (nI (16 * i)).toInt64 := by rw [Int64.mul_comm]; exact tl_m hi
theorem tl_p {i : Nat} (hi : i < 24) : (nI (16 * i)).toInt64 + 16 = (nI (16 * i + 16)).toInt64 := by
  apply Int64.toInt_inj.mp
  have h1 := t64 (n := 16 * i) (by omega)
  rw [tI_add (by rw [i16, h1]; omega) (by rw [i16, h1]; omega), i16, h1, t64 (by omega)]; omega
theorem tl_sm {n : Nat} (h : n ≤ 400) : sm 30000 (nI n).toInt64 := by
  unfold sm; rw [t64 (by omega)]; omega
/-! the player and its rest lie near -/
def pOK (f : Nat → Int64) : Prop := sm 10000 (f 0) ∧ sm 10000 (f 1) ∧ (1 ≤ (f 2).toInt ∧ (f 2).toInt ≤ 64) ∧ (1 ≤ (f 3).toInt ∧ (f 3).toInt ≤ 64)
def rOK (x r : Int64) : Prop := sm 20000 r ∧ -10000 ≤ x.toInt + r.toInt ∧ x.toInt + r.toInt ≤ 10000
theorem pe_i {x w : Int64} (h : sm 10000 x) (hw : 1 ≤ w.toInt ∧ w.toInt ≤ 64) : (x + w).toInt = x.toInt + w.toInt := tI_add (by have := h.1; omega) (by have := h.2; omega)
theorem pe_sm {x w : Int64} (h : sm 10000 x) (hw : 1 ≤ w.toInt ∧ w.toInt ≤ 64) : sm 30000 (x + w) := by
  unfold sm; rw [pe_i h hw]; have := h.1; have := h.2; omega
theorem lo_i {x r : Int64} (h : sm 30000 x) (hr : sm 20000 r) : (x + lMin 0 r).toInt = x.toInt + min 0 r.toInt := by
  have h0 : (lMin 0 r).toInt = min 0 r.toInt := by
    unfold lMin
    by_cases c : r < 0
    · rw [if_pos c]; have := lt0_i.mp c; omega
    · rw [if_neg c, i0]; have : ¬ r.toInt < 0 := fun z => c (lt0_i.mpr z)
      omega
  rw [tI_add, h0] <;> rw [h0] <;> (have := h.1; have := h.2; have := hr.1; have := hr.2; omega)
theorem hi_i {x r : Int64} (h : sm 30000 x) (hr : sm 20000 r) : (x + lMax 0 r).toInt = x.toInt + max 0 r.toInt := by
  have h0 : (lMax 0 r).toInt = max 0 r.toInt := by
    unfold lMax
    by_cases c : r < 0
    · rw [if_pos c, i0]; have := lt0_i.mp c; omega
    · rw [if_neg c]; have : ¬ r.toInt < 0 := fun z => c (lt0_i.mpr z)
      omega
  rw [tI_add, h0] <;> rw [h0] <;> (have := h.1; have := h.2; have := hr.1; have := hr.2; omega)
theorem ax_no1 {a b p q : Int} (hp : 0 < p) (hpq : p < q) (h : b ≤ a) (h0 : b ≤ 0) : b * q ≤ a * p := by
  have h1 := Int.mul_nonneg (show 0 ≤ -b by omega) (show 0 ≤ q - p by omega)
  have h2 := Int.mul_nonneg (show 0 ≤ a - b by omega) (show 0 ≤ p by omega)
  have e1 : -b * (q - p) = b * p - b * q := by grind
  have e2 : (a - b) * p = a * p - b * p := by grind
  omega
/-- an axis on which a box that moves by r never comes over i -/
theorem ax_no {x w r : Int64} {i : Nat} (hx : sm 10000 x) (hw : 1 ≤ w.toInt ∧ w.toInt ≤ 64) (hr : sm 20000 r) (hi : i < 24) (hn : i < tFt (x + lMin 0 r) ∨ tLt (x + w + lMax 0 r) ≤ i) {p q : Int} (hp : 0 < p) (hpq : p < q)
    (h : AxO ((nI (16 * i)).toInt64.toInt - (x + w).toInt) ((nI (16 * i + 16)).toInt64.toInt - x.toInt) r.toInt p q) : False := by
  have e1 := lo_i (sm_mono hx (by omega)) hr
  have e2 := hi_i (pe_sm hx hw) hr
  rw [pe_i hx hw] at e2
  unfold tFt tLt at hn
  rw [e1, e2] at hn
  unfold AxO at h
  rw [t64 (by omega), t64 (by omega), pe_i hx hw] at h
  rcases hn with hn | hn
  · have := ax_no1 (a := r.toInt) (b := ((16 * i + 16 : Nat) : Int) - x.toInt) hp hpq (by omega) (by omega)
    omega
  · have := ax_no1 (a := -r.toInt) (b := -(((16 * i : Nat) : Int) - (x.toInt + w.toInt))) hp hpq (by omega) (by omega)
    rw [Int.neg_mul, Int.neg_mul] at this
    omega
theorem sm3 {x : Int64} (h : sm 30000 x) : sm 100000 x := sm_mono h (by omega)
theorem gF_st {f : Nat → Int64} {rx ry : Int64} (hp : pOK f) (hrx : sm 20000 rx) (hry : sm 20000 ry) {t : Nat} (ht : t < 576) (h : gF f rx ry t) : ∃ p q : Int, 0 < q ∧ 0 < p ∧ p < q ∧ StO (f 0) (f 1) (f 0 + f 2) (f 1 + f 3) (nI (16 * (t % 24))).toInt64 (nI (16 * (t / 24))).toInt64 (nI ((16 * (t % 24)) + 16)).toInt64 (nI ((16 * (t / 24)) + 16)).toInt64 rx ry p q :=
  (refI (sm_mono hp.1 (by omega)) (sm_mono hp.2.1 (by omega)) (sm3 (pe_sm hp.1 hp.2.2.1)) (sm3 (pe_sm hp.2.1 hp.2.2.2)) (sm3 (tl_sm (by omega))) (sm3 (tl_sm (by omega))) (sm3 (tl_sm (by omega))) (sm3 (tl_sm (by omega))) (sm_mono hrx (by omega)) (sm_mono hry (by omega))).1.mp h
theorem gF_no {f : Nat → Int64} {rx ry : Int64} (hp : pOK f) (hrx : sm 20000 rx) (hry : sm 20000 ry) {t : Nat} (ht : t < 576)
    (hn : (t % 24 < tFt (f 0 + lMin 0 rx) ∨ tLt (f 0 + f 2 + lMax 0 rx) ≤ t % 24) ∨ (t / 24 < tFt (f 1 + lMin 0 ry) ∨ tLt (f 1 + f 3 + lMax 0 ry) ≤ t / 24)) : ¬ gF f rx ry t := by
  intro h
  obtain ⟨p, q, h1, h2, h3, h4⟩ := gF_st hp hrx hry ht h
  rcases hn with hn | hn
  · exact ax_no hp.1 hp.2.2.1 hrx (by omega) hn h2 h3 h4.1.2
  · exact ax_no hp.2.1 hp.2.2.2 hry (by omega) hn h2 h3 h4.2.2
/-- one tile, tried by the class and by the reference -/
theorem try_eq {fsr : Nat → Int32} {fsl : Nat → Bool} {f : Nat → Int64} {rx ry : Int64} (hp : pOK f) (hrx : sm 20000 rx) (hry : sm 20000 ry) {i j : Nat} (hi : i < 24) (hj : j < 24) (hs : sBit (fsr j) i = fsl (24 * j + i)) (z : Option Nat × Int64 × Int64) :
    (if sBit (fsr j) i then cTry (f 0) (f 1) (f 0 + f 2) (f 1 + f 3) rx ry i j z else z) = gSt fsl f rx ry (24 * j + i) z := by
  have e1 : (24 * j + i) % 24 = i := by omega
  have e2 : (24 * j + i) / 24 = j := by omega
  have hov := ov_eq (bdx := 0) (bdy := 0) (sm_mono hp.1 (by omega)) (sm_mono hp.2.1 (by omega)) (pe_sm hp.1 hp.2.2.1) (pe_sm hp.2.1 hp.2.2.2) (tl_sm (n := 16 * i) (by omega)) (tl_sm (n := 16 * j) (by omega)) (tl_sm (n := 16 * i + 16) (by omega)) (tl_sm (n := 16 * j + 16) (by omega)) (sm_mono hrx (by omega)) (sm_mono hry (by omega)) (by unfold sm; decide) (by unfold sm; decide)
  rw [Int64.sub_zero, Int64.sub_zero] at hov
  obtain ⟨o1, o2, o3⟩ := hov
  unfold cTry gSt gF gU gL
  rw [tl_m hi, tl_m hj, tl_p hi, tl_p hj, e1, e2, o2, o3, hs]
  by_cases hb : fsl (24 * j + i) = true
  · rw [if_pos hb]
    by_cases hc : cFI (f 0) (f 1) (f 0 + f 2) (f 1 + f 3) (nI (16 * i)).toInt64 (nI (16 * j)).toInt64 (nI (16 * i + 16)).toInt64 (nI (16 * j + 16)).toInt64 rx ry ∧ (z.1 = none ∨ cUI (f 0) (f 1) (f 0 + f 2) (f 1 + f 3) (nI (16 * i)).toInt64 (nI (16 * j)).toInt64 (nI (16 * i + 16)).toInt64 (nI (16 * j + 16)).toInt64 rx ry * z.2.2 < z.2.1 * cLI (f 0) (f 1) (f 0 + f 2) (f 1 + f 3) (nI (16 * i)).toInt64 (nI (16 * j)).toInt64 (nI (16 * i + 16)).toInt64 (nI (16 * j + 16)).toInt64 rx ry)
    · rw [if_pos (pB_t ⟨o1.mpr hc.1, hc.2⟩), if_pos (pB_t ⟨hb, hc⟩)]
    · rw [if_neg (fun w => hc ⟨o1.mp (pB_iff.mp w).1, (pB_iff.mp w).2⟩), if_neg (fun w => hc (pB_iff.mp w).2)]
  · rw [if_neg hb, if_neg (fun w => hb (pB_iff.mp w).1)]
theorem cIn_scan {fsr : Nat → Int32} {fsl : Nat → Bool} {f : Nat → Int64} {rx ry : Int64} (hp : pOK f) (hrx : sm 20000 rx) (hry : sm 20000 ry) {j : Nat} (hj : j < 24) (hs : ∀ i, i < 24 → sBit (fsr j) i = fsl (24 * j + i)) : ∀ (n i : Nat) (z : Option Nat × Int64 × Int64), i + n ≤ 24 ∨ n = 0 →
    cIn fsr (f 0) (f 1) (f 0 + f 2) (f 1 + f 3) rx ry j i n z = scanF (gSt fsl f rx ry) (24 * j + i) n z
  | 0, i, z, _ => by rw [cIn, scanF]
  | n + 1, i, z, h => by
    rw [cIn, scanF, try_eq hp hrx hry (by omega) hj (hs i (by omega)) z, cIn_scan hp hrx hry hj hs n (i + 1) _ (by omega)]
    rfl
theorem cOut_scan {fsr : Nat → Int32} {f : Nat → Int64} {rx ry : Int64} {fi li : Nat} : ∀ (n j : Nat) (z : Option Nat × Int64 × Int64),
    cOut fsr (f 0) (f 1) (f 0 + f 2) (f 1 + f 3) rx ry fi li j n z = scanF (fun j w => cIn fsr (f 0) (f 1) (f 0 + f 2) (f 1 + f 3) rx ry j fi (li - fi) w) j n z
  | 0, j, z => by rw [cOut, scanF]
  | n + 1, j, z => by rw [cOut, scanF, cOut_scan n (j + 1)]
/-- what the class and the reference find is the same -/
theorem cG_eq {fsr : Nat → Int32} {fsl : Nat → Bool} {f : Nat → Int64} {rx ry : Int64} (hp : pOK f) (hrx : sm 20000 rx) (hry : sm 20000 ry) (hs : ∀ i j, i < 24 → j < 24 → sBit (fsr j) i = fsl (24 * j + i)) :
    cG fsr (f 0) (f 1) (f 0 + f 2) (f 1 + f 3) rx ry = gScan fsl f rx ry 576 := by
  unfold cG
  rw [cOut_scan, gScan_scanF, show 576 = 24 * 24 by rfl]
  have hr := scanF_rows (gSt fsl f rx ry) 24 0 (none, 1, 1)
  rw [Nat.mul_zero] at hr
  rw [hr]
  have hlx := tLt_le (f 0 + f 2 + lMax 0 rx)
  have hly := tLt_le (f 1 + f 3 + lMax 0 ry)
  have h1 := scanF_in (f := fun j w => scanF (gSt fsl f rx ry) (24 * j) 24 w) (fi := tFt (f 1 + lMin 0 ry)) (b := 0) hly (by
    intro j hj ho z
    rw [Nat.zero_add]
    exact scanF_id 24 (24 * j) z (fun t a b w => gSt_n (fun q => gF_no hp hrx hry (by omega) (Or.inr (by rw [show t / 24 = j by omega]; exact ho)) q.2) w)) (none, 1, 1)
  rw [h1, Nat.zero_add]
  refine scanF_congr _ _ _ (fun j a b z => ?_)
  have hj : j < 24 := by omega
  have h2 := scanF_in (f := gSt fsl f rx ry) (fi := tFt (f 0 + lMin 0 rx)) (b := 24 * j) hlx (by
    intro i hi ho z
    exact gSt_n (fun q => gF_no hp hrx hry (by omega) (Or.inl (by rw [show (24 * j + i) % 24 = i by omega]; exact ho)) q.2) z) z
  show cIn fsr (f 0) (f 1) (f 0 + f 2) (f 1 + f 3) rx ry j (tFt (f 0 + lMin 0 rx)) (tLt (f 0 + f 2 + lMax 0 rx) - tFt (f 0 + lMin 0 rx)) z = scanF (gSt fsl f rx ry) (24 * j) 24 z
  rw [h2, cIn_scan hp hrx hry hj (fun i hi => hs i j hi hj) _ _ _ (by omega)]
