def mF4 (a b d e_ : Int64) : Nat → Int64 := mFour (fun _ => 0) a b d e_
def mAg (q r : (Nat → Int64) × (Nat → Int64) × Nat) : Prop := q.2.2 = r.2.2 ∧ ∀ j, j < q.2.2 → q.1 j = r.1 j ∧ q.2.1 j = r.2.1 j
theorem mI_ag : ∀ (n : Nat) (gu gl hu hl : Nat → Int64) (u l_ : Int64), (∀ j, j < n → gu j = hu j ∧ gl j = hl j) → ∀ j, j < n + 1 → mIU n gu gl u l_ j = mIU n hu hl u l_ j ∧ mIL n gu gl u l_ j = mIL n hu hl u l_ j
  | 0, gu, gl, hu, hl, u, l_, _, j, hj => by
    obtain rfl : j = 0 := by omega
    simp only [mIU, mIL, pk_uLs, and_self]
  | n + 1, gu, gl, hu, hl, u, l_, h, j, hj => by
    have hn := h n (by omega)
    rw [mIU, mIL, mIU, mIL, ← hn.1, ← hn.2]
    by_cases hc : u * gl n < gu n * l_
    · rw [if_pos hc, if_pos hc, if_pos hc, if_pos hc]
      rcases Nat.lt_or_ge j (n + 1) with h1 | h1
      · exact mI_ag n _ _ _ _ u l_ (fun i hi => by rw [pk_uLn (by omega), pk_uLn (by omega), pk_uLn (by omega), pk_uLn (by omega)]; exact h i (by omega)) j h1
      · obtain rfl : j = n + 1 := by omega
        rw [mIU_out n _ _ _ _ _ (by omega), mIL_out n _ _ _ _ _ (by omega), mIU_out n _ _ _ _ _ (by omega), mIL_out n _ _ _ _ _ (by omega), pk_uLs, pk_uLs, pk_uLs, pk_uLs]; exact ⟨rfl, rfl⟩
    · rw [if_neg hc, if_neg hc, if_neg hc, if_neg hc]
      rcases Nat.lt_or_ge j (n + 1) with h1 | h1
      · rw [pk_uLn (by omega), pk_uLn (by omega), pk_uLn (by omega), pk_uLn (by omega)]; exact h j h1
      · obtain rfl : j = n + 1 := by omega
        rw [pk_uLs, pk_uLs, pk_uLs, pk_uLs]; exact ⟨rfl, rfl⟩
theorem mAdd_ag {q r : (Nat → Int64) × (Nat → Int64) × Nat} {fr to by_ : Int64} (h : mAg q r) : mAg (mAdd q fr to by_) (mAdd r fr to by_) := by
  unfold mAdd
  split
  · refine ⟨congrArg (· + 1) h.1, fun j hj => ?_⟩
    show mIU q.2.2 q.1 q.2.1 _ _ j = mIU r.2.2 r.1 r.2.1 _ _ j ∧ mIL q.2.2 q.1 q.2.1 _ _ j = mIL r.2.2 r.1 r.2.1 _ _ j
    rw [← h.1]
    exact mI_ag q.2.2 q.1 q.2.1 r.1 r.2.1 _ _ h.2 j hj
  · exact h
theorem mMo_ag {fon ftw gon gtw : Nat → Int64} {mx my : Int64} {q r : (Nat → Int64) × (Nat → Int64) × Nat} (ho : ∀ j, j < 4 → fon j = gon j) (ht : ∀ j, j < 4 → ftw j = gtw j) (h : mAg q r) : mAg (mMo fon ftw mx my q) (mMo gon gtw mx my r) := by
  unfold mMo
  rw [ho 0 (by decide), ho 1 (by decide), ho 2 (by decide), ho 3 (by decide), ht 0 (by decide), ht 1 (by decide), ht 2 (by decide), ht 3 (by decide)]
  exact mAdd_ag (mAdd_ag (mAdd_ag (mAdd_ag (mAdd_ag (mAdd_ag h)))))
theorem mFst_lt {P : Nat → Prop} : ∀ (n i k : Nat), mFst P i n = some k → k < i + n ∧ P k
  | 0, _, _, h => by cases h
  | n + 1, i, k, h => by
    rw [mFst] at h
    by_cases hp : P i
    · rw [if_pos (pB_t hp)] at h; cases h; exact ⟨by omega, hp⟩
    · rw [if_neg (fun z => hp (pB_iff.mp z))] at h
      have := mFst_lt n (i + 1) k h; exact ⟨by omega, this.2⟩
theorem mFst_congr {P R : Nat → Prop} : ∀ (n i : Nat), (∀ k, i ≤ k → k < i + n → (P k ↔ R k)) → mFst P i n = mFst R i n
  | 0, _, _ => rfl
  | n + 1, i, h => by
    rw [mFst, mFst, pB_congr (h i (Nat.le_refl _) (by omega)), mFst_congr n (i + 1) (fun k a b => h k (by omega) (by omega))]
theorem mRu_congr {P R : Nat → Prop} {q r : (Nat → Int64) × (Nat → Int64) × Nat} (h : mAg q r) (hp : ∀ k, k < q.2.2 → (P k ↔ R k)) : mRu P q = mRu R r := by
  unfold mRu
  rw [← h.1, ← mFst_congr (P := P) (R := R) q.2.2 0 (fun k _ b => hp k (by omega))]
  cases he : mFst P 0 q.2.2 with
  | none => rfl
  | some k =>
    have hk := (mFst_lt _ _ _ he).1
    show mTu (q.1 k) (q.2.1 k) = mTu (r.1 k) (r.2.1 k)
    rw [(h.2 k (by omega)).1, (h.2 k (by omega)).2]
theorem mRl_congr {P R : Nat → Prop} {q r : (Nat → Int64) × (Nat → Int64) × Nat} (h : mAg q r) (hp : ∀ k, k < q.2.2 → (P k ↔ R k)) : mRl P q = mRl R r := by
  unfold mRl
  rw [← h.1, ← mFst_congr (P := P) (R := R) q.2.2 0 (fun k _ b => hp k (by omega))]
  cases he : mFst P 0 q.2.2 with
  | none => rfl
  | some k =>
    have hk := (mFst_lt _ _ _ he).1
    show mTl (q.1 k) (q.2.1 k) = mTl (r.1 k) (r.2.1 k)
    rw [(h.2 k (by omega)).1, (h.2 k (by omega)).2]
/-- a lower part is above 0 -/
theorem mRl_pos {P : Nat → Prop} {q : (Nat → Int64) × (Nat → Int64) × Nat} (h : mGood q) : 0 < mRl P q := by
  unfold mRl
  cases he : mFst P 0 q.2.2 with
  | none => exact (show (0 : Int64) < 1 by decide)
  | some k =>
    have hk := (mFst_lt _ _ _ he).1
    obtain ⟨h1, h2⟩ := h k (by omega)
    obtain ⟨U, hU, eU⟩ := pk_lOf (Int64.not_lt.mpr h1)
    obtain ⟨L, hL, eL⟩ := pk_lOf (Int64.not_lt.mpr (Int64.le_of_lt h2))
    have hL0 : 0 < L := Nat.pos_of_ne_zero (fun z => absurd h2 (by rw [eL, z]; decide))
    show 0 < mTl (q.1 k) (q.2.1 k)
    rw [eU, eL, mTl_N hU hL]
    have hg : 0 < L / Nat.gcd U L := Nat.div_pos (Nat.le_of_dvd hL0 (Nat.gcd_dvd_right U L)) (Nat.gcd_pos_of_pos_right U hL0)
    exact (pk_lLT (by decide : (0:Nat) < 2 ^ 63) (Nat.lt_of_le_of_lt (Nat.div_le_self L _) hL)).mpr hg
noncomputable def cQ (o0 o1 o2 o3 t0 t1 t2 t3 mx my : Int64) : (Nat → Int64) × (Nat → Int64) × Nat := mMo (mF4 o0 o1 o2 o3) (mF4 t0 t1 t2 t3) mx my (fun _ => 0, fun _ => 0, 0)
theorem f4 (f : Nat → Int64) : ∀ j, j < 4 → f j = mF4 (f 0) (f 1) (f 2) (f 3) j := by
  intro j hj
  rcases (show j = 0 ∨ j = 1 ∨ j = 2 ∨ j = 3 by omega) with rfl | rfl | rfl | rfl <;> rfl
def cHI (o0 o1 o2 o3 t0 t1 t2 t3 mx my : Int64) (k : Nat) : Prop := mHitI (mF4 o0 o1 o2 o3) (mF4 t0 t1 t2 t3) mx my (cQ o0 o1 o2 o3 t0 t1 t2 t3 mx my) k
noncomputable def cUI (o0 o1 o2 o3 t0 t1 t2 t3 mx my : Int64) : Int64 := mRu (cHI o0 o1 o2 o3 t0 t1 t2 t3 mx my) (cQ o0 o1 o2 o3 t0 t1 t2 t3 mx my)
noncomputable def cLI (o0 o1 o2 o3 t0 t1 t2 t3 mx my : Int64) : Int64 := mRl (cHI o0 o1 o2 o3 t0 t1 t2 t3 mx my) (cQ o0 o1 o2 o3 t0 t1 t2 t3 mx my)
def cFI (o0 o1 o2 o3 t0 t1 t2 t3 mx my : Int64) : Prop := ∃ k, k < (cQ o0 o1 o2 o3 t0 t1 t2 t3 mx my).2.2 ∧ cHI o0 o1 o2 o3 t0 t1 t2 t3 mx my k
theorem can_agI (fon ftw : Nat → Int64) (mx my : Int64) (fup flw : Nat → Int64) : mAg (mMo fon ftw mx my (fup, flw, 0)) (cQ (fon 0) (fon 1) (fon 2) (fon 3) (ftw 0) (ftw 1) (ftw 2) (ftw 3) mx my) := mMo_ag (f4 fon) (f4 ftw) ⟨rfl, fun j h => absurd h (Nat.not_lt_zero j)⟩
theorem can_hI (fon ftw : Nat → Int64) (mx my : Int64) (fup flw : Nat → Int64) (k : Nat) (hk : k < (mMo fon ftw mx my (fup, flw, 0)).2.2) : mHitI fon ftw mx my (mMo fon ftw mx my (fup, flw, 0)) k ↔ cHI (fon 0) (fon 1) (fon 2) (fon 3) (ftw 0) (ftw 1) (ftw 2) (ftw 3) mx my k := by
  have h := can_agI fon ftw mx my fup flw
  unfold cHI mHitI
  have hat : ∀ u l_ : Int64, mAtI (mF4 (fon 0) (fon 1) (fon 2) (fon 3)) (mF4 (ftw 0) (ftw 1) (ftw 2) (ftw 3)) mx my u l_ = mAtI fon ftw mx my u l_ := fun _ _ => rfl
  rw [hat, hat, ← h.1, (h.2 k hk).1, (h.2 k hk).2]
  constructor
  · rintro (z | ⟨z1, z2, z3⟩)
    · exact Or.inl z
    · rw [(h.2 (k + 1) z1).1, (h.2 (k + 1) z1).2] at z2 z3; exact Or.inr ⟨z1, z2, z3⟩
  · rintro (z | ⟨z1, z2, z3⟩)
    · exact Or.inl z
    · rw [← (h.2 (k + 1) z1).1, ← (h.2 (k + 1) z1).2] at z2 z3; exact Or.inr ⟨z1, z2, z3⟩
theorem can_uI (fon ftw : Nat → Int64) (mx my : Int64) (fup flw : Nat → Int64) : mRu (mHitI fon ftw mx my (mMo fon ftw mx my (fup, flw, 0))) (mMo fon ftw mx my (fup, flw, 0)) = cUI (fon 0) (fon 1) (fon 2) (fon 3) (ftw 0) (ftw 1) (ftw 2) (ftw 3) mx my := mRu_congr (can_agI fon ftw mx my fup flw) (can_hI fon ftw mx my fup flw)
theorem can_lI (fon ftw : Nat → Int64) (mx my : Int64) (fup flw : Nat → Int64) : mRl (mHitI fon ftw mx my (mMo fon ftw mx my (fup, flw, 0))) (mMo fon ftw mx my (fup, flw, 0)) = cLI (fon 0) (fon 1) (fon 2) (fon 3) (ftw 0) (ftw 1) (ftw 2) (ftw 3) mx my := mRl_congr (can_agI fon ftw mx my fup flw) (can_hI fon ftw mx my fup flw)
theorem can_fI (fon ftw : Nat → Int64) (mx my : Int64) (fup flw : Nat → Int64) : pB (∃ k, k < (mMo fon ftw mx my (fup, flw, 0)).2.2 ∧ (mHitI fon ftw mx my (mMo fon ftw mx my (fup, flw, 0))) k) = pB (cFI (fon 0) (fon 1) (fon 2) (fon 3) (ftw 0) (ftw 1) (ftw 2) (ftw 3) mx my) := pB_congr (by
  have h := can_agI fon ftw mx my fup flw
  constructor
  · rintro ⟨k, h1, h2⟩; exact ⟨k, by rw [← h.1]; exact h1, (can_hI fon ftw mx my fup flw k h1).mp h2⟩
  · rintro ⟨k, h1, h2⟩; rw [← h.1] at h1; exact ⟨k, h1, (can_hI fon ftw mx my fup flw k h1).mpr h2⟩)
theorem cLI_pos (o0 o1 o2 o3 t0 t1 t2 t3 mx my : Int64) : 0 < cLI o0 o1 o2 o3 t0 t1 t2 t3 mx my := mRl_pos (mMo_good _ _ _ _ _ _)
def cHE (o0 o1 o2 o3 t0 t1 t2 t3 mx my : Int64) (k : Nat) : Prop := mHitE (mF4 o0 o1 o2 o3) (mF4 t0 t1 t2 t3) mx my (cQ o0 o1 o2 o3 t0 t1 t2 t3 mx my) k
noncomputable def cUE (o0 o1 o2 o3 t0 t1 t2 t3 mx my : Int64) : Int64 := mRu (cHE o0 o1 o2 o3 t0 t1 t2 t3 mx my) (cQ o0 o1 o2 o3 t0 t1 t2 t3 mx my)
noncomputable def cLE (o0 o1 o2 o3 t0 t1 t2 t3 mx my : Int64) : Int64 := mRl (cHE o0 o1 o2 o3 t0 t1 t2 t3 mx my) (cQ o0 o1 o2 o3 t0 t1 t2 t3 mx my)
def cFE (o0 o1 o2 o3 t0 t1 t2 t3 mx my : Int64) : Prop := ∃ k, k < (cQ o0 o1 o2 o3 t0 t1 t2 t3 mx my).2.2 ∧ cHE o0 o1 o2 o3 t0 t1 t2 t3 mx my k
theorem can_agE (fon ftw : Nat → Int64) (mx my : Int64) (fup flw : Nat → Int64) : mAg (mMo fon ftw mx my (fup, flw, 0)) (cQ (fon 0) (fon 1) (fon 2) (fon 3) (ftw 0) (ftw 1) (ftw 2) (ftw 3) mx my) := mMo_ag (f4 fon) (f4 ftw) ⟨rfl, fun j h => absurd h (Nat.not_lt_zero j)⟩
theorem can_hE (fon ftw : Nat → Int64) (mx my : Int64) (fup flw : Nat → Int64) (k : Nat) (hk : k < (mMo fon ftw mx my (fup, flw, 0)).2.2) : mHitE fon ftw mx my (mMo fon ftw mx my (fup, flw, 0)) k ↔ cHE (fon 0) (fon 1) (fon 2) (fon 3) (ftw 0) (ftw 1) (ftw 2) (ftw 3) mx my k := by
  have h := can_agE fon ftw mx my fup flw
  unfold cHE mHitE
  have hat : ∀ u l_ : Int64, mAtE (mF4 (fon 0) (fon 1) (fon 2) (fon 3)) (mF4 (ftw 0) (ftw 1) (ftw 2) (ftw 3)) mx my u l_ = mAtE fon ftw mx my u l_ := fun _ _ => rfl
  rw [hat, hat, ← h.1, (h.2 k hk).1, (h.2 k hk).2]
  constructor
  · rintro (z | ⟨z1, z2, z3⟩)
    · exact Or.inl z
    · rw [(h.2 (k + 1) z1).1, (h.2 (k + 1) z1).2] at z2 z3; exact Or.inr ⟨z1, z2, z3⟩
  · rintro (z | ⟨z1, z2, z3⟩)
    · exact Or.inl z
    · rw [← (h.2 (k + 1) z1).1, ← (h.2 (k + 1) z1).2] at z2 z3; exact Or.inr ⟨z1, z2, z3⟩
theorem can_uE (fon ftw : Nat → Int64) (mx my : Int64) (fup flw : Nat → Int64) : mRu (mHitE fon ftw mx my (mMo fon ftw mx my (fup, flw, 0))) (mMo fon ftw mx my (fup, flw, 0)) = cUE (fon 0) (fon 1) (fon 2) (fon 3) (ftw 0) (ftw 1) (ftw 2) (ftw 3) mx my := mRu_congr (can_agE fon ftw mx my fup flw) (can_hE fon ftw mx my fup flw)
theorem can_lE (fon ftw : Nat → Int64) (mx my : Int64) (fup flw : Nat → Int64) : mRl (mHitE fon ftw mx my (mMo fon ftw mx my (fup, flw, 0))) (mMo fon ftw mx my (fup, flw, 0)) = cLE (fon 0) (fon 1) (fon 2) (fon 3) (ftw 0) (ftw 1) (ftw 2) (ftw 3) mx my := mRl_congr (can_agE fon ftw mx my fup flw) (can_hE fon ftw mx my fup flw)
theorem can_fE (fon ftw : Nat → Int64) (mx my : Int64) (fup flw : Nat → Int64) : pB (∃ k, k < (mMo fon ftw mx my (fup, flw, 0)).2.2 ∧ (mHitE fon ftw mx my (mMo fon ftw mx my (fup, flw, 0))) k) = pB (cFE (fon 0) (fon 1) (fon 2) (fon 3) (ftw 0) (ftw 1) (ftw 2) (ftw 3) mx my) := pB_congr (by
  have h := can_agE fon ftw mx my fup flw
  constructor
  · rintro ⟨k, h1, h2⟩; exact ⟨k, by rw [← h.1]; exact h1, (can_hE fon ftw mx my fup flw k h1).mp h2⟩
  · rintro ⟨k, h1, h2⟩; rw [← h.1] at h1; exact ⟨k, h1, (can_hE fon ftw mx my fup flw k h1).mpr h2⟩)
theorem cLE_pos (o0 o1 o2 o3 t0 t1 t2 t3 mx my : Int64) : 0 < cLE o0 o1 o2 o3 t0 t1 t2 t3 mx my := mRl_pos (mMo_good _ _ _ _ _ _)
set_option maxRecDepth 100000 in
theorem tX5_isFoundC_t (l : Launch) (dC : Nat → ClassId) (dI : Nat → Nat → Nat) (cJ cI cZ : ClassId) (om cd ns apx apy act nb asd amv asl apl asw nw aor nc aon atw aup alw nm : Nat) (mx my up lo rx ry : Int64) (fon : Nat → Int64) (ftw : Nat → Int64) (fup : Nat → Int64) (flw : Nat → Int64)   : MMi l yX5_isFound wsX5_isFound { frames := 2, cells := 0, slots := 0, locals := 65 } [.ref om, .int (bI true)] (dC, dI) [(om, .inr (5, [.int (nI cd), .int (nI ns), .ref apx, .ref apy, .ref act, .int (nI nb), .ref asd, .ref amv, .ref asl, .ref apl, .ref asw, .int (nI nw), .ref aor, .int (nI nc), .ref aon, .ref atw, .long mx, .long my, .ref aup, .ref alw, .int (nI nm), .long up, .long lo, .long rx, .long ry])), (aon, .inl (cJ, 4, .inr (.inl fon))), (atw, .inl (cJ, 4, .inr (.inl ftw))), (aup, .inl (cJ, 12, .inr (.inl fup))), (alw, .inl (cJ, 12, .inr (.inl flw)))] [(om, .inr (5, [.int (nI cd), .int (nI ns), .ref apx, .ref apy, .ref act, .int (nI nb), .ref asd, .ref amv, .ref asl, .ref apl, .ref asw, .int (nI nw), .ref aor, .int (nI nc), .ref aon, .ref atw, .long mx, .long my, .ref aup, .ref alw, .int (nI ((mMo fon ftw mx my (fup, flw, 0)).2.2)), .long (cUI (fon 0) (fon 1) (fon 2) (fon 3) (ftw 0) (ftw 1) (ftw 2) (ftw 3) mx my), .long (cLI (fon 0) (fon 1) (fon 2) (fon 3) (ftw 0) (ftw 1) (ftw 2) (ftw 3) mx my), .long rx, .long ry])), (aon, .inl (cJ, 4, .inr (.inl fon))), (atw, .inl (cJ, 4, .inr (.inl ftw))), (aup, .inl (cJ, 12, .inr (.inl (mMo fon ftw mx my (fup, flw, 0)).1))), (alw, .inl (cJ, 12, .inr (.inl (mMo fon ftw mx my (fup, flw, 0)).2.1)))] [(cJ, .long), (cI, .int), (cZ, .boolean)] (bI (pB (cFI (fon 0) (fon 1) (fon 2) (fon 3) (ftw 0) (ftw 1) (ftw 2) (ftw 3) mx my))) := by
  have h := tX5_isFound_t l dC dI cJ cI cZ om cd ns apx apy act nb asd amv asl apl asw nw aor nc aon atw aup alw nm mx my up lo rx ry fon ftw fup flw
  intro sz
  have h := h sz
  rw [can_uI, can_lI, can_fI] at h
  exact h
set_option maxRecDepth 100000 in
theorem tX5_isFoundC_f (l : Launch) (dC : Nat → ClassId) (dI : Nat → Nat → Nat) (cJ cI cZ : ClassId) (om cd ns apx apy act nb asd amv asl apl asw nw aor nc aon atw aup alw nm : Nat) (mx my up lo rx ry : Int64) (fon : Nat → Int64) (ftw : Nat → Int64) (fup : Nat → Int64) (flw : Nat → Int64)   : MMi l yX5_isFound wsX5_isFound { frames := 2, cells := 0, slots := 0, locals := 65 } [.ref om, .int (bI false)] (dC, dI) [(om, .inr (5, [.int (nI cd), .int (nI ns), .ref apx, .ref apy, .ref act, .int (nI nb), .ref asd, .ref amv, .ref asl, .ref apl, .ref asw, .int (nI nw), .ref aor, .int (nI nc), .ref aon, .ref atw, .long mx, .long my, .ref aup, .ref alw, .int (nI nm), .long up, .long lo, .long rx, .long ry])), (aon, .inl (cJ, 4, .inr (.inl fon))), (atw, .inl (cJ, 4, .inr (.inl ftw))), (aup, .inl (cJ, 12, .inr (.inl fup))), (alw, .inl (cJ, 12, .inr (.inl flw)))] [(om, .inr (5, [.int (nI cd), .int (nI ns), .ref apx, .ref apy, .ref act, .int (nI nb), .ref asd, .ref amv, .ref asl, .ref apl, .ref asw, .int (nI nw), .ref aor, .int (nI nc), .ref aon, .ref atw, .long mx, .long my, .ref aup, .ref alw, .int (nI ((mMo fon ftw mx my (fup, flw, 0)).2.2)), .long (cUE (fon 0) (fon 1) (fon 2) (fon 3) (ftw 0) (ftw 1) (ftw 2) (ftw 3) mx my), .long (cLE (fon 0) (fon 1) (fon 2) (fon 3) (ftw 0) (ftw 1) (ftw 2) (ftw 3) mx my), .long rx, .long ry])), (aon, .inl (cJ, 4, .inr (.inl fon))), (atw, .inl (cJ, 4, .inr (.inl ftw))), (aup, .inl (cJ, 12, .inr (.inl (mMo fon ftw mx my (fup, flw, 0)).1))), (alw, .inl (cJ, 12, .inr (.inl (mMo fon ftw mx my (fup, flw, 0)).2.1)))] [(cJ, .long), (cI, .int), (cZ, .boolean)] (bI (pB (cFE (fon 0) (fon 1) (fon 2) (fon 3) (ftw 0) (ftw 1) (ftw 2) (ftw 3) mx my))) := by
  have h := tX5_isFound_f l dC dI cJ cI cZ om cd ns apx apy act nb asd amv asl apl asw nw aor nc aon atw aup alw nm mx my up lo rx ry fon ftw fup flw
  intro sz
  have h := h sz
  rw [can_uE, can_lE, can_fE] at h
  exact h