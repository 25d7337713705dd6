/-! the corners in the reference's order -/
def En (K : Nat → Prop) (h : Nat → Nat) (cnt : Nat) : Prop := (∀ i, i < cnt → K (h i)) ∧ (∀ i j, i < cnt → j < cnt → h i = h j → i = j) ∧ (∀ a, K a → ∃ i, i < cnt ∧ h i = a)
theorem En.perm {K : Nat → Prop} {h r : Nat → Nat} {cnt : Nat} (e : En K h cnt) (π : Nat → Nat) (h1 : ∀ i, i < cnt → r i = h (π i) ∧ π i < cnt) (h2 : ∀ i j, i < cnt → j < cnt → π i = π j → i = j) (h3 : ∀ j, j < cnt → ∃ i, i < cnt ∧ π i = j) : En K r cnt := by
  obtain ⟨e1, e2, e3⟩ := e
  refine ⟨fun i hi => by rw [(h1 i hi).1]; exact e1 _ (h1 i hi).2, fun i j hi hj he => ?_, fun a ha => ?_⟩
  · rw [(h1 i hi).1, (h1 j hj).1] at he
    exact h2 i j hi hj (e2 _ _ (h1 i hi).2 (h1 j hj).2 he)
  · obtain ⟨j, hj, ej⟩ := e3 a ha
    obtain ⟨i, hi, ei⟩ := h3 j hj
    exact ⟨i, hi, by rw [(h1 i hi).1, ei]; exact ej⟩
theorem mC1_en {fpx fpy : Nat → Int64} {fr to : Nat} {od : Nat → Nat} : ∀ k, (∀ i, i < (mC1 fpx fpy fr to od k).2 → (fr ≤ (mC1 fpx fpy fr to od k).1 i ∧ (mC1 fpx fpy fr to od k).1 i < fr + k) ∧ mKeep fpx fpy fr to ((mC1 fpx fpy fr to od k).1 i)) ∧ (∀ i j, i < j → j < (mC1 fpx fpy fr to od k).2 → (mC1 fpx fpy fr to od k).1 i < (mC1 fpx fpy fr to od k).1 j) ∧ (∀ a, fr ≤ a → a < fr + k → mKeep fpx fpy fr to a → ∃ i, i < (mC1 fpx fpy fr to od k).2 ∧ (mC1 fpx fpy fr to od k).1 i = a)
  | 0 => ⟨fun i hi => absurd hi (Nat.not_lt_zero i), fun i j _ hj => absurd hj (Nat.not_lt_zero j), fun a h1 h2 => by omega⟩
  | k + 1 => by
    obtain ⟨i1, i2, i3⟩ := mC1_en (fpx := fpx) (fpy := fpy) (fr := fr) (to := to) (od := od) k
    by_cases hk : mKeep fpx fpy fr to (fr + k)
    · rw [mC1_y hk]
      generalize mC1 fpx fpy fr to od k = r at *
      refine ⟨fun i hi => ?_, fun i j hij hj => ?_, fun a a1 a2 ak => ?_⟩
      · have hi : i < r.2 + 1 := hi
        show (fr ≤ va_up r.1 r.2 (fr + k) i ∧ va_up r.1 r.2 (fr + k) i < fr + (k + 1)) ∧ mKeep fpx fpy fr to (va_up r.1 r.2 (fr + k) i)
        by_cases e : i = r.2
        · rw [e, va_up_self]; exact ⟨⟨by omega, by omega⟩, hk⟩
        · rw [va_up_ne _ _ e]; have := i1 i (by omega); exact ⟨⟨this.1.1, by omega⟩, this.2⟩
      · have hj : j < r.2 + 1 := hj
        show va_up r.1 r.2 (fr + k) i < va_up r.1 r.2 (fr + k) j
        rw [va_up_ne _ _ (show i ≠ r.2 by omega)]
        by_cases e : j = r.2
        · rw [e, va_up_self]; exact (i1 i (by omega)).1.2
        · rw [va_up_ne _ _ e]; exact i2 i j hij (by omega)
      · show ∃ i, i < r.2 + 1 ∧ va_up r.1 r.2 (fr + k) i = a
        by_cases e : a = fr + k
        · exact ⟨r.2, by omega, by rw [va_up_self, e]⟩
        · obtain ⟨i, hi, ei⟩ := i3 a a1 (by omega) ak
          exact ⟨i, by omega, by rw [va_up_ne _ _ (show i ≠ r.2 by omega)]; exact ei⟩
    · rw [mC1_n hk]
      refine ⟨fun i hi => ⟨⟨(i1 i hi).1.1, by have := (i1 i hi).1.2; omega⟩, (i1 i hi).2⟩, i2, fun a a1 a2 ak => i3 a a1 ?_ ak⟩
      by_cases e : a = fr + k
      · rw [e] at ak; exact absurd ak hk
      · omega
theorem mSrt_pos {fpx fpy : Nat → Int64} {a : Nat} : ∀ (k : Nat) (g : Nat → Nat), 1 ≤ k → ∃ m, 1 ≤ m ∧ m ≤ k ∧ (∀ j, j < m → mSrt fpx fpy a k g j = g j) ∧ mSrt fpx fpy a k g m = a ∧ (∀ j, m ≤ j → j < k → mSrt fpx fpy a k g (j + 1) = g j ∧ mBef fpx fpy (g 0) a (g j)) ∧ (1 < m → ¬ mBef fpx fpy (g 0) a (g (m - 1))) ∧ (∀ j, k < j → mSrt fpx fpy a k g j = g j)
  | 0, g, h => by omega
  | k + 1, g, _ => by
    by_cases c : 1 < k + 1 ∧ mBef fpx fpy (g 0) a (g k)
    · rw [mSrt, if_pos (pB_t c)]
      obtain ⟨m, m1, m2, h1, h2, h3, h4, h5⟩ := mSrt_pos (fpx := fpx) (fpy := fpy) (a := a) k (va_up g (k + 1) (g k)) (by omega)
      have e : ∀ j, j ≤ k → va_up g (k + 1) (g k) j = g j := fun j hj => va_up_ne _ _ (by omega)
      refine ⟨m, m1, by omega, fun j hj => by rw [h1 j hj, e j (by omega)], h2, fun j a b => ?_, fun q => ?_, fun j hj => ?_⟩
      · by_cases ej : j = k
        · subst ej
          rw [h5 (j + 1) (by omega), va_up_self]; exact ⟨rfl, c.2⟩
        · have := h3 j a (by omega)
          rw [e j (by omega), e 0 (by omega)] at this; exact this
      · have := h4 q; rw [e 0 (by omega), e (m - 1) (by omega)] at this; exact this
      · rw [h5 j (by omega), va_up_ne _ _ (by omega)]
    · rw [mSrt, if_neg (fun z => c (pB_iff.mp z))]
      refine ⟨k + 1, by omega, Nat.le_refl _, fun j hj => va_up_ne _ _ (by omega), va_up_self _ _ _, fun j a b => by omega, fun q z => c ⟨q, z⟩, fun j hj => va_up_ne _ _ (by omega)⟩
theorem incr_id {r : Nat → Nat} {cnt n : Nat} (h1 : ∀ i, i < cnt → r i < n) (h2 : ∀ i j, i < j → j < cnt → r i < r j) (h3 : ∀ k, k < n → ∃ i, i < cnt ∧ r i = k) : cnt = n ∧ ∀ i, i < cnt → r i = i := by
  have ge : ∀ i, i < cnt → i ≤ r i := by
    intro i
    induction i with
    | zero => intro _; omega
    | succ i ih => intro hi; have := ih (by omega); have := h2 i (i + 1) (by omega) hi; omega
  have id : ∀ i, i < cnt → r i = i := by
    intro i
    induction i using Nat.strongRecOn with
    | _ i ih =>
      intro hi
      obtain ⟨j, hj, e⟩ := h3 i (by have := ge i hi; have := h1 i hi; omega)
      have := ge j hj
      by_cases c : j = i
      · rw [c] at e; exact e
      · have := ih j (by omega) hj; omega
  refine ⟨?_, id⟩
  rcases Nat.lt_trichotomy cnt n with c | c | c
  · obtain ⟨i, hi, e⟩ := h3 cnt c
    have := id i hi; omega
  · exact c
  · have := h1 n (by omega); have := id n (by omega); omega
theorem crs_acb (a b d : Pt) : crs a b d = -crs a d b := by unfold crs; grind
theorem mLess_i {fpx fpy : Nat → Int64} {a b : Nat} : mLess fpx fpy a b ↔ lx (pt fpx fpy a) (pt fpx fpy b) := by
  unfold mLess lx pt
  rw [Int64.lt_iff_toInt_lt, Int64.lt_iff_toInt_lt, ← Int64.toInt_inj]
theorem corners_eq {fpx fpy : Nat → Int64} {fr ct : Nat} {fox foy : Nat → Int64} {on : Nat} {fx fy : Nat → Int64} {n : Nat} (h : HullR fpx fpy fr ct fox foy on fx fy n) (od : Nat → Nat) :
    (mC1 fpx fpy fr (fr + ct) od ct).2 = n ∧ ∀ k, k < n → pt fpx fpy (mC3 fpx fpy (mC2 fpx fpy (mC1 fpx fpy fr (fr + ct) od ct).1 ((mC1 fpx fpy fr (fr + ct) od ct).2 - 1)) ((mC1 fpx fpy fr (fr + ct) od ct).2 - 1) k) = pt fx fy k := by
  obtain ⟨h1, h2, h3, h4⟩ := h
  rcases h4 with ⟨c0, n0⟩ | ⟨o1, o2, o3, o4, o5⟩
  · subst c0; subst n0
    exact ⟨rfl, fun k hk => by omega⟩
  · obtain ⟨i1, i2, i3⟩ := mC1_en (fpx := fpx) (fpy := fpy) (fr := fr) (to := fr + ct) (od := od) ct
    generalize mC1 fpx fpy fr (fr + ct) od ct = r at *
    -- what is kept
    have keep : ∀ a, fr ≤ a → a < fr + ct → (¬ mIn fpx fpy true (fpx a) (fpy a) fr (fr + ct) ↔ ∃ k, k < n ∧ pt fpx fpy a = pt fx fy k) := by
      intro a a1 a2
      rw [mIn_t h1 (h1 a a1 a2)]
      exact o4.ext_iff (s := pt fpx fpy a) ⟨a, a1, a2, rfl⟩
    have ex : ∀ a, ∃ k, (fr ≤ a ∧ a < fr + ct) ∧ mKeep fpx fpy fr (fr + ct) a → k < n ∧ pt fpx fpy a = pt fx fy k := by
      intro a
      by_cases c : (fr ≤ a ∧ a < fr + ct) ∧ mKeep fpx fpy fr (fr + ct) a
      · obtain ⟨k, hk⟩ := (keep a c.1.1 c.1.2).mp c.2.2; exact ⟨k, fun _ => hk⟩
      · exact ⟨0, fun z => absurd z c⟩
    obtain ⟨rk, hrk⟩ := Classical.axiomOfChoice ex
    have cinj : ∀ i j, i < n → j < n → pt fx fy i = pt fx fy j → i = j := by
      intro i j hi hj e
      rcases Nat.lt_trichotomy i j with c | c | c
      · exact (o4.poly.ne c hj e).elim
      · exact c
      · exact (o4.poly.ne c hi e.symm).elim
    have same : ∀ a b, pt fpx fpy a = pt fpx fpy b → fpx a = fpx b ∧ fpy a = fpy b := by
      intro a b e
      unfold pt at e
      rw [Prod.mk.injEq, Int64.toInt_inj, Int64.toInt_inj] at e; exact e
    have rinj : ∀ a b, ((fr ≤ a ∧ a < fr + ct) ∧ mKeep fpx fpy fr (fr + ct) a) → ((fr ≤ b ∧ b < fr + ct) ∧ mKeep fpx fpy fr (fr + ct) b) → rk a = rk b → a = b := by
      intro a b ha hb e
      have e2 : pt fpx fpy a = pt fpx fpy b := by rw [(hrk a ha).2, (hrk b hb).2, e]
      rcases Nat.lt_trichotomy a b with c | c | c
      · exact (hb.2.1 ⟨a, ha.1.1, c, (same _ _ e2.symm)⟩).elim
      · exact c
      · exact (ha.2.1 ⟨b, hb.1.1, c, (same _ _ e2)⟩).elim
    have rsur : ∀ k, k < n → ∃ a, ((fr ≤ a ∧ a < fr + ct) ∧ mKeep fpx fpy fr (fr + ct) a) ∧ rk a = k := by
      intro k hk
      obtain ⟨a0, a1, a2, e0⟩ := o4.sub _ (o4.poly.mem k hk)
      obtain ⟨a, b1, b2, b3⟩ := least (P := fun a => fr ≤ a ∧ pt fx fy k = pt fpx fpy a) ⟨a1, e0⟩
      have ha : (fr ≤ a ∧ a < fr + ct) ∧ mKeep fpx fpy fr (fr + ct) a := by
        refine ⟨⟨b2.1, by omega⟩, ?_, (keep a b2.1 (by omega)).mpr ⟨k, hk, b2.2.symm⟩⟩
        rintro ⟨b, q1, q2, q3, q4⟩
        exact b3 b q2 ⟨q1, by rw [b2.2]; unfold pt; rw [q3, q4]⟩
      refine ⟨a, ha, ?_⟩
      have := hrk a ha
      exact cinj _ _ this.1 hk (by rw [← this.2, b2.2])
    have en1 : En (fun a => (fr ≤ a ∧ a < fr + ct) ∧ mKeep fpx fpy fr (fr + ct) a) r.1 r.2 := by
      refine ⟨i1, fun i j hi hj e => ?_, fun a ha => i3 a ha.1.1 ha.1.2 ha.2⟩
      rcases Nat.lt_trichotomy i j with c | c | c
      · have := i2 i j c hj; omega
      · exact c
      · have := i2 j i c hi; omega
    generalize hK : (fun a => (fr ≤ a ∧ a < fr + ct) ∧ mKeep fpx fpy fr (fr + ct) a) = K at *
    have hKa : ∀ a, K a ↔ ((fr ≤ a ∧ a < fr + ct) ∧ mKeep fpx fpy fr (fr + ct) a) := fun a => by rw [← hK]
    -- the least comes first
    have en2 : ∀ j, j < r.2 → En K (mC2 fpx fpy r.1 j) r.2 ∧ ∀ i, i ≤ j → ¬ lx (pt fpx fpy (mC2 fpx fpy r.1 j i)) (pt fpx fpy (mC2 fpx fpy r.1 j 0)) := by
      intro j
      induction j with
      | zero => intro _; exact ⟨en1, fun i hi z => by rw [show i = 0 by omega] at z; exact lx_irr z⟩
      | succ j ih =>
        intro hj
        obtain ⟨e1, e2⟩ := ih (by omega)
        by_cases c : mLess fpx fpy (mC2 fpx fpy r.1 j (j + 1)) (mC2 fpx fpy r.1 j 0)
        · rw [mC2_y c]
          rw [mLess_i] at c
          generalize mC2 fpx fpy r.1 j = g at *
          have v0 : va_up (va_up g (j + 1) (g 0)) 0 (g (j + 1)) 0 = g (j + 1) := va_up_self _ _ _
          have v1 : va_up (va_up g (j + 1) (g 0)) 0 (g (j + 1)) (j + 1) = g 0 := by rw [va_up_ne _ _ (by omega), va_up_self]
          have v2 : ∀ i, i ≠ 0 → i ≠ j + 1 → va_up (va_up g (j + 1) (g 0)) 0 (g (j + 1)) i = g i := fun i a b => by rw [va_up_ne _ _ a, va_up_ne _ _ b]
          refine ⟨e1.perm (fun i => if i = 0 then j + 1 else if i = j + 1 then 0 else i) ?_ ?_ ?_, ?_⟩
          · intro i hi
            try dsimp only
            by_cases c1 : i = 0
            · rw [if_pos c1, c1]; exact ⟨v0, hj⟩
            · rw [if_neg c1]
              by_cases c2 : i = j + 1
              · rw [if_pos c2, c2]; exact ⟨v1, by omega⟩
              · rw [if_neg c2]; exact ⟨v2 i c1 c2, hi⟩
          · intro a b ha hb
            try dsimp only
            split <;> split <;> (try split) <;> (try split) <;> omega
          · intro q hq
            refine ⟨if q = 0 then j + 1 else if q = j + 1 then 0 else q, ?_, ?_⟩
            · split
              · omega
              · split <;> omega
            · try dsimp only
              by_cases c1 : q = 0
              · rw [if_pos c1, if_neg (by omega), if_pos rfl, c1]
              · rw [if_neg c1]
                by_cases c2 : q = j + 1
                · rw [if_pos c2, if_pos rfl, c2]
                · rw [if_neg c2, if_neg c1, if_neg c2]
          · intro i hi z
            rw [v0] at z
            by_cases c1 : i = 0
            · rw [c1, v0] at z; exact lx_irr z
            · by_cases c2 : i = j + 1
              · rw [c2, v1] at z; exact lx_asy z c
              · rw [v2 i c1 c2] at z
                exact e2 i (by omega) (lx_tr z c)
        · rw [mC2_n c]
          rw [mLess_i] at c
          refine ⟨e1, fun i hi z => ?_⟩
          by_cases c2 : i = j + 1
          · rw [c2] at z; exact c z
          · exact e2 i (by omega) z
    have hpos : 1 ≤ r.2 := by
      obtain ⟨a, ha, _⟩ := rsur 0 o4.poly.pos
      obtain ⟨i, hi, _⟩ := en1.2.2 a ((hKa a).mpr ha)
      omega
    obtain ⟨f1, f2⟩ := en2 (r.2 - 1) (by omega)
    generalize mC2 fpx fpy r.1 (r.2 - 1) = o at *
    have r0 : rk (o 0) = 0 := by
      have k0 := hrk (o 0) ((hKa _).mp (f1.1 0 (by omega)))
      by_cases c : rk (o 0) = 0
      · exact c
      · exfalso
        obtain ⟨a, ha, ea⟩ := rsur 0 o4.poly.pos
        obtain ⟨i, hi, ei⟩ := f1.2.2 a ((hKa a).mpr ha)
        have ka := hrk a ha
        refine f2 i (by omega) ?_
        rw [ei, ka.2, ea, k0.2]
        exact o4.poly.lst _ (by omega) k0.1
    have bef : ∀ a b, K a → K b → 1 ≤ rk a → 1 ≤ rk b → (mBef fpx fpy (o 0) a b ↔ rk a < rk b) := by
      intro a b ha hb na nb
      have ka := hrk a ((hKa a).mp ha)
      have kb := hrk b ((hKa b).mp hb)
      have ko := hrk (o 0) ((hKa _).mp (f1.1 0 (by omega)))
      have q := (hKa _).mp (f1.1 0 (by omega))
      unfold mBef
      rw [gt0_i, mTurn_i (h1 _ q.1.1 q.1.2) (h1 _ ((hKa a).mp ha).1.1 ((hKa a).mp ha).1.2) (h1 _ ((hKa b).mp hb).1.1 ((hKa b).mp hb).1.2)]
      show 0 < crs (pt fpx fpy (o 0)) (pt fpx fpy a) (pt fpx fpy b) ↔ _
      rw [ko.2, ka.2, kb.2, r0]
      constructor
      · intro z
        rcases Nat.lt_trichotomy (rk a) (rk b) with c | c | c
        · exact c
        · rw [c, crs_bb] at z; omega
        · have := o4.poly.fan' nb c ka.1
          have e : crs (pt fx fy 0) (pt fx fy (rk a)) (pt fx fy (rk b)) = -crs (pt fx fy 0) (pt fx fy (rk b)) (pt fx fy (rk a)) := crs_acb _ _ _
          omega
      · intro c; exact o4.poly.fan' na c kb.1
    -- the rest in order about it
    have en3 : ∀ j, j < r.2 → En K (mC3 fpx fpy o j) r.2 ∧ mC3 fpx fpy o j 0 = o 0 ∧ ∀ p q, 1 ≤ p → p < q → q ≤ j → rk (mC3 fpx fpy o j p) < rk (mC3 fpx fpy o j q) := by
      intro j
      induction j with
      | zero => intro _; exact ⟨f1, rfl, fun p q a b e => by omega⟩
      | succ j ih =>
        intro hj
        obtain ⟨e1, e2, e3⟩ := ih (by omega)
        rw [mC3]
        generalize mC3 fpx fpy o j = g at *
        obtain ⟨m, m1, m2, s1, s2', s3, s4, s5⟩ := mSrt_pos (fpx := fpx) (fpy := fpy) (a := g (j + 1)) (j + 1) g (by omega)
        generalize mSrt fpx fpy (g (j + 1)) (j + 1) g = R at *
        have rpos : ∀ i, 1 ≤ i → i < r.2 → 1 ≤ rk (g i) := by
          intro i a b
          by_cases c : rk (g i) = 0
          · exfalso
            have := rinj (g i) (g 0) ((hKa _).mp (e1.1 i b)) ((hKa _).mp (e1.1 0 (by omega))) (by rw [c, e2, r0])
            have := e1.2.1 i 0 b (by omega) this
            omega
          · omega
        have rne : ∀ i q, i < r.2 → q < r.2 → i ≠ q → rk (g i) ≠ rk (g q) := by
          intro i q a b c d
          exact c (e1.2.1 i q a b (rinj _ _ ((hKa _).mp (e1.1 i a)) ((hKa _).mp (e1.1 q b)) d))
        refine ⟨e1.perm (fun i => if i < m then i else if i = m then j + 1 else if i ≤ j + 1 then i - 1 else i) ?_ ?_ ?_, ?_, ?_⟩
        · intro i hi
          try dsimp only
          by_cases c1 : i < m
          · rw [if_pos c1]; exact ⟨s1 i c1, hi⟩
          · rw [if_neg c1]
            by_cases c2 : i = m
            · rw [if_pos c2, c2]; exact ⟨s2', hj⟩
            · rw [if_neg c2]
              by_cases c3 : i ≤ j + 1
              · rw [if_pos c3]
                have := (s3 (i - 1) (by omega) (by omega)).1
                rw [show i - 1 + 1 = i by omega] at this
                exact ⟨this, by omega⟩
              · rw [if_neg c3]; exact ⟨s5 i (by omega), hi⟩
        · intro a b ha hb
          try dsimp only
          by_cases a1 : a < m
          · rw [if_pos a1]
            split
            · omega
            · split
              · omega
              · split <;> omega
          · rw [if_neg a1]
            by_cases a2 : a = m
            · rw [if_pos a2]
              split
              · omega
              · split
                · omega
                · split <;> omega
            · rw [if_neg a2]
              by_cases a3 : a ≤ j + 1
              · rw [if_pos a3]
                split
                · omega
                · split
                  · omega
                  · split <;> omega
              · rw [if_neg a3]
                split
                · omega
                · split
                  · omega
                  · split <;> omega
        · intro q hq
          by_cases c1 : q < m
          · exact ⟨q, hq, if_pos c1⟩
          · by_cases c2 : q = j + 1
            · exact ⟨m, by omega, by (try dsimp only); rw [if_neg (by omega), if_pos rfl, c2]⟩
            · by_cases c3 : q ≤ j
              · exact ⟨q + 1, by omega, by (try dsimp only); rw [if_neg (by omega), if_neg (by omega), if_pos (by omega), Nat.add_sub_cancel]⟩
              · exact ⟨q, hq, by (try dsimp only); rw [if_neg (by omega), if_neg (by omega), if_neg (by omega)]⟩
        · rw [s1 0 (by omega)]; exact e2
        · intro p q p1 pq qj
          rw [e2] at s3 s4
          have above : ∀ i, m ≤ i → i < j + 1 → rk (g (j + 1)) < rk (g i) := fun i a b => (bef _ _ (e1.1 _ hj) (e1.1 i (by omega)) (rpos _ (by omega) hj) (rpos i (by omega) (by omega))).mp (s3 i a b).2
          have below : ∀ i, 1 ≤ i → i < m → rk (g i) < rk (g (j + 1)) := by
            intro i a b
            have t : rk (g (m - 1)) < rk (g (j + 1)) := by
              have := s4 (by omega)
              rw [bef _ _ (e1.1 _ hj) (e1.1 _ (by omega)) (rpos _ (by omega) hj) (rpos _ (by omega) (by omega))] at this
              have := rne (m - 1) (j + 1) (by omega) hj (by omega)
              omega
            by_cases c : i = m - 1
            · rw [c]; exact t
            · have := e3 i (m - 1) a (by omega) (by omega); omega
          have val : ∀ i, m < i → i ≤ j + 1 → R i = g (i - 1) := fun i a b => by
            have := (s3 (i - 1) (by omega) (by omega)).1
            rwa [show i - 1 + 1 = i by omega] at this
          by_cases c1 : q < m
          · rw [s1 p (by omega), s1 q c1]; exact e3 p q p1 pq (by omega)
          · by_cases c2 : q = m
            · rw [c2, s2', s1 p (by omega)]; exact below p p1 (by omega)
            · rw [val q (by omega) qj]
              by_cases c3 : p < m
              · rw [s1 p c3]; exact e3 p (q - 1) p1 (by omega) (by omega)
              · by_cases c4 : p = m
                · rw [c4, s2']; exact above (q - 1) (by omega) (by omega)
                · rw [val p (by omega) (by omega)]; exact e3 (p - 1) (q - 1) (by omega) (by omega) (by omega)
    obtain ⟨g1, g2, g3⟩ := en3 (r.2 - 1) (by omega)
    generalize mC3 fpx fpy o (r.2 - 1) = g at *
    have kk : ∀ i, i < r.2 → rk (g i) < n ∧ pt fpx fpy (g i) = pt fx fy (rk (g i)) := fun i hi => hrk _ ((hKa _).mp (g1.1 i hi))
    have fin := incr_id (r := fun i => rk (g i)) (cnt := r.2) (n := n) (fun i hi => (kk i hi).1) (by
      intro i j hij hj
      try dsimp only
      by_cases c : 1 ≤ i
      · exact g3 i j c hij (by omega)
      · rw [show i = 0 by omega, g2, r0]
        by_cases z : rk (g j) = 0
        · exfalso
          have := rinj (g j) (g 0) ((hKa _).mp (g1.1 j hj)) ((hKa _).mp (g1.1 0 (by omega))) (by rw [z, g2, r0])
          have := g1.2.1 j 0 hj (by omega) this
          omega
        · omega) (by
      intro k hk
      obtain ⟨a, ha, ea⟩ := rsur k hk
      obtain ⟨i, hi, ei⟩ := g1.2.2 a ((hKa a).mpr ha)
      exact ⟨i, hi, by (try dsimp only); rw [ei]; exact ea⟩)
    refine ⟨fin.1, fun k hk => ?_⟩
    have hk' : k < r.2 := by rw [fin.1]; exact hk
    have e := fin.2 k hk'
    try dsimp only at e
    rw [(kk k hk').2, e]
