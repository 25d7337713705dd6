/-! no gap in those directions: a common place -/
def df (a b : Pt) : Pt := (a.1 - b.1, a.2 - b.2)
theorem dt_df (N a b : Pt) : dt N (df a b) = dt N a - dt N b := by unfold dt df; simp only; rw [Int.mul_sub, Int.mul_sub]; omega
theorem crs_dt (a b s : Pt) : crs a b s = dt (nrm a b) s - dt (nrm a b) a := by unfold crs dt nrm; simp only; grind
theorem sat {O O' : Pt → Prop} {c e : Nat → Pt} {n k : Nat} (hc : Poly O c n) (he : Poly O' e k) (hA : ¬ Ap c n e k) : Cv (fun s => ∃ i j, i < n ∧ j < k ∧ s = df (c i) (e j)) (em (0, 0)) := by
  have hn := hc.pos
  have hk := he.pos
  have hnk : 1 ≤ n * k := Nat.mul_pos hn hk
  obtain ⟨H, h, hP⟩ := poly_ex (fun t => df (c (t / k)) (e (t % k))) hnk
  have hD : ∀ s, (∃ t, t < n * k ∧ s = (fun t => df (c (t / k)) (e (t % k))) t) ↔ ∃ i j, i < n ∧ j < k ∧ s = df (c i) (e j) := by
    intro s
    constructor
    · rintro ⟨t, ht, rfl⟩
      exact ⟨t / k, t % k, Nat.div_lt_of_lt_mul (by rw [Nat.mul_comm]; exact ht), Nat.mod_lt _ hk, rfl⟩
    · rintro ⟨i, j, hi, hj, rfl⟩
      refine ⟨k * i + j, ?_, ?_⟩
      · have : k * (i + 1) ≤ k * n := Nat.mul_le_mul_left k hi
        rw [Nat.mul_comm n k]; rw [Nat.mul_add] at this; omega
      · show _ = df (c ((k * i + j) / k)) (e ((k * i + j) % k))
        rw [Nat.mul_add_div hk, Nat.mul_add_mod, Nat.div_eq_of_lt hj, Nat.mod_eq_of_lt hj, Nat.add_zero]
  have hin : ∀ i j, i < n → j < k → In H h (em (df (c i) (e j))) := fun i j hi hj => hP.inO ((hD _).mpr ⟨i, j, hi, hj, rfl⟩)
  have hI : In H h (em (0, 0)) := by
    refine ⟨⟨?_, ?_, ?_, ?_⟩, ?_⟩
    · refine Classical.byContradiction (fun hx => hA (Or.inl (Or.inl (fun i j hi hj => ?_))))
      obtain ⟨a, ha, ea⟩ := (hin i j hi hj).1.1
      have : ¬ (0 : Int) ≤ 1 * (H a).1 := fun z => hx ⟨a, ha, z⟩
      simp only [em, df] at ea
      unfold dt; simp only
      omega
    · refine Classical.byContradiction (fun hx => hA (Or.inl (Or.inr (fun i j hi hj => ?_))))
      obtain ⟨a, ha, ea⟩ := (hin i j hi hj).1.2.1
      have : ¬ 1 * (H a).1 ≤ (0 : Int) := fun z => hx ⟨a, ha, z⟩
      simp only [em, df] at ea
      unfold dt; simp only
      omega
    · refine Classical.byContradiction (fun hx => hA (Or.inr (Or.inl (Or.inl (fun i j hi hj => ?_)))))
      obtain ⟨a, ha, ea⟩ := (hin i j hi hj).1.2.2.1
      have : ¬ (0 : Int) ≤ 1 * (H a).2 := fun z => hx ⟨a, ha, z⟩
      simp only [em, df] at ea
      unfold dt; simp only
      omega
    · refine Classical.byContradiction (fun hx => hA (Or.inr (Or.inl (Or.inr (fun i j hi hj => ?_)))))
      obtain ⟨a, ha, ea⟩ := (hin i j hi hj).1.2.2.2
      have : ¬ 1 * (H a).2 ≤ (0 : Int) := fun z => hx ⟨a, ha, z⟩
      simp only [em, df] at ea
      unfold dt; simp only
      omega
    · intro a ha
      refine Classical.byContradiction (fun hx => ?_)
      rw [crh_em] at hx
      obtain ⟨i, j, hi, hj, e1⟩ := (hD _).mp (hP.mem a ha)
      obtain ⟨i', j', hi', hj', e2⟩ := (hD _).mp (hP.mem _ (pAfter_lt ha))
      have hl : ∀ p q, p < n → q < k → 0 ≤ crs (H a) (H (pAfter h a)) (df (c p) (e q)) := fun p q hp hq => hP.lft a _ ha ((hD _).mpr ⟨p, q, hp, hq, rfl⟩)
      have hb := crs_bb (H a) (H (pAfter h a))
      rw [crs_dt] at hx hb
      simp only [crs_dt] at hl
      rw [e1] at hx hb hl
      rw [e2] at hb
      have hz : dt (nrm (df (c i) (e j)) (H (pAfter h a))) (0, 0) = 0 := by unfold dt; simp only; omega
      rw [← e2] at hb
      have hb2 := crs_bb (H a) (H (pAfter h a))
      generalize hN : nrm (df (c i) (e j)) (H (pAfter h a)) = N at *
      rw [e2] at hb
      simp only [dt_df] at hl hb hx
      rw [hz] at hx
      have hpos : ∀ p q, p < n → q < k → 0 < dt N (c p) - dt N (e q) := fun p q hp hq => by have := hl p q hp hq; omega
      have r1 := hl i' j hi' hj
      have r2 := hl i j' hi hj'
      have q1 : dt N (c i') = dt N (c i) := by omega
      have q2 : dt N (e j') = dt N (e j) := by omega
      by_cases d1 : c i = c i'
      · by_cases d2 : e j = e j'
        · rw [e1, e2, ← d1, ← d2, crs_bb] at hb2
          have : nrm (df (c i) (e j)) (H (pAfter h a)) = (0, 0) := by rw [e2, ← d1, ← d2]; unfold nrm; simp
          rw [hN] at this
          rw [this] at hx
          unfold dt at hx
          simp only at hx
          omega
        · obtain ⟨b, hb', hb1, hb2⟩ := edge_par he (N := ng N) hj hj' d2 (fun b hb => by
            have := hl i b hi hb
            have e : ∀ p, dt (ng N) p = -dt N p := fun p => by unfold dt ng; simp only; rw [Int.neg_mul, Int.neg_mul]; omega
            rw [e, e]; omega) (by
            have e : ∀ p, dt (ng N) p = -dt N p := fun p => by unfold dt ng; simp only; rw [Int.neg_mul, Int.neg_mul]; omega
            rw [e, e]; omega)
          refine hA (Or.inr (Or.inr (Or.inr ⟨b, hb', gp_of hn hk (N := N) hb2 ?_ hpos⟩)))
          have e : ∀ p, dt (ng N) p = -dt N p := fun p => by unfold dt ng; simp only; rw [Int.neg_mul, Int.neg_mul]; omega
          rw [e, e] at hb1; omega
      · obtain ⟨b, hb', hb1, hb2⟩ := edge_par hc (N := N) hi hi' d1 (fun b hb => by have := hl b j hb hj; omega) q1
        exact hA (Or.inr (Or.inr (Or.inl ⟨b, hb', gp_of hn hk (N := N) hb2 hb1 hpos⟩)))
  exact (hP.cv hI).mono (fun s ⟨a, ha, es⟩ => by rw [es]; exact (hD _).mp (hP.mem a ha))
theorem common_of {S O T O' : Pt → Prop} {c e : Nat → Pt} {n k : Nat} (hS : Shp S O c n) (hT : Shp T O' e k) (hA : ¬ Ap c n e k) : ∃ q : Qt, 0 < q.2.2 ∧ Cv S q ∧ Cv T q := by
  obtain ⟨d1, d2, d3, ⟨i1, j1, a1, b1, e1⟩, ⟨i2, j2, a2, b2, e2⟩, ⟨i3, j3, a3, b3, e3⟩, x, y, z, h1, h2, h3, h4, h5, h6⟩ := (sat hS.poly hT.poly hA).wt (em_pos _)
  have sS : ∀ i, i < n → S (c i) := fun i hi => hS.sub _ (hS.poly.mem i hi)
  have sT : ∀ j, j < k → T (e j) := fun j hj => hT.sub _ (hT.poly.mem j hj)
  subst e1; subst e2; subst e3
  unfold df em at h5 h6
  simp only [Int.mul_one, Int.mul_zero] at h5 h6
  rw [Int.mul_sub, Int.mul_sub, Int.mul_sub] at h5 h6
  have w1 : Wt S (x * (c i1).1 + y * (c i2).1 + z * (c i3).1, x * (c i1).2 + y * (c i2).2 + z * (c i3).2, x + y + z) := ⟨c i1, c i2, c i3, sS _ a1, sS _ a2, sS _ a3, x, y, z, h1, h2, h3, h4, Int.mul_comm _ _, Int.mul_comm _ _⟩
  have w2 : Wt T (x * (c i1).1 + y * (c i2).1 + z * (c i3).1, x * (c i1).2 + y * (c i2).2 + z * (c i3).2, x + y + z) := by
    refine ⟨e j1, e j2, e j3, sT _ b1, sT _ b2, sT _ b3, x, y, z, h1, h2, h3, h4, ?_, ?_⟩
    · simp only; rw [Int.mul_comm, show x * (e j1).1 + y * (e j2).1 + z * (e j3).1 = x * (c i1).1 + y * (c i2).1 + z * (c i3).1 by omega]
    · simp only; rw [Int.mul_comm, show x * (e j1).2 + y * (e j2).2 + z * (e j3).2 = x * (c i1).2 + y * (c i2).2 + z * (c i3).2 by omega]
  have hm : 0 < ((x * (c i1).1 + y * (c i2).1 + z * (c i3).1, x * (c i1).2 + y * (c i2).2 + z * (c i3).2, x + y + z) : Qt).2.2 := h4
  exact ⟨_, hm, (hS.iff hm).mp (In.lin hS.poly.pos hm w1 (fun s hs => hS.inS hs)), (hT.iff hm).mp (In.lin hT.poly.pos hm w2 (fun s hs => hT.inS hs))⟩
/-- apart, as the class and as the reference have it -/
theorem apart_iff {S O T O' : Pt → Prop} {c e : Nat → Pt} {n k : Nat} (hS : Shp S O c n) (hT : Shp T O' e k) {s0 t0 : Pt} (hs0 : S s0) (ht0 : T t0) :
    Ap c n e k ↔ (¬ Cv S (em t0) ∧ ¬ Cv T (em s0) ∧ ¬ ∃ a b g h, S a ∧ S b ∧ T g ∧ T h ∧ Meet a b g h) := by
  constructor
  · intro hA
    refine ⟨fun hc => ?_, fun hc => ?_, ?_⟩
    · exact hA.no hS hT (em_pos t0) (hc.wt (em_pos t0)) ((self_cv ht0).wt (em_pos t0))
    · exact hA.no hS hT (em_pos s0) ((self_cv hs0).wt (em_pos s0)) (hc.wt (em_pos s0))
    · rintro ⟨a, b, g, h, ha, hb, hg, hh, hM⟩
      obtain ⟨q, hm, w1, w2⟩ := meet_q ha hb hg hh hM
      exact hA.no hS hT hm w1 w2
  · rintro ⟨h1, h2, h3⟩
    refine Classical.byContradiction (fun hA => ?_)
    obtain ⟨q, hm, g1, g2⟩ := common_of hS hT hA
    rcases common hS hT hm g1 g2 hs0 ht0 with z | z | z
    · exact h1 z
    · exact h2 z
    · exact h3 z
