/-! a shape of the class and the points of the reference -/
def HullR (fpx fpy : Nat → Int64) (fr ct : Nat) (fox foy : Nat → Int64) (on : Nat) (fx fy : Nat → Int64) (n : Nat) : Prop :=
  ptsOK fpx fpy fr (fr + ct) ∧ on ≤ ct ∧ n ≤ 2 * on ∧ ((ct = 0 ∧ n = 0) ∨ (1 ≤ on ∧ (∀ i, i < on → s2 (fox i) (foy i)) ∧ (∀ i j, i < j → j < on → lx (pt fox foy i) (pt fox foy j)) ∧ Shp (ptS fpx fpy fr (fr + ct)) (fun s => ∃ j, j < on ∧ s = pt fox foy j) (pt fx fy) n ∧ (∀ i, i < n → s2 (fx i) (fy i))))
theorem HullR.new (fpx fpy : Nat → Int64) (fr : Nat) (fox foy fx fy : Nat → Int64) : HullR fpx fpy fr 0 fox foy 0 fx fy 0 :=
  ⟨fun a h1 h2 => by omega, Nat.le_refl _, Nat.le_refl _, Or.inl ⟨rfl, rfl⟩⟩
theorem ptS_congr {fpx fpy gx gy : Nat → Int64} {fr to : Nat} (h : ∀ a, fr ≤ a → a < to → gx a = fpx a ∧ gy a = fpy a) : ptS gx gy fr to = ptS fpx fpy fr to := by
  funext s
  apply propext
  constructor
  · rintro ⟨a, h1, h2, e⟩; exact ⟨a, h1, h2, by rw [e]; unfold pt; rw [(h a h1 h2).1, (h a h1 h2).2]⟩
  · rintro ⟨a, h1, h2, e⟩; exact ⟨a, h1, h2, by rw [e]; unfold pt; rw [(h a h1 h2).1, (h a h1 h2).2]⟩
theorem HullR.congr {fpx fpy gx gy : Nat → Int64} {fr ct : Nat} {fox foy : Nat → Int64} {on : Nat} {fx fy : Nat → Int64} {n : Nat} (h : HullR fpx fpy fr ct fox foy on fx fy n) (he : ∀ a, fr ≤ a → a < fr + ct → gx a = fpx a ∧ gy a = fpy a) : HullR gx gy fr ct fox foy on fx fy n := by
  obtain ⟨h1, h2, h3, h4⟩ := h
  refine ⟨fun a p q => by rw [(he a p q).1, (he a p q).2]; exact h1 a p q, h2, h3, ?_⟩
  rw [ptS_congr he]; exact h4
theorem take_in {fpx fpy : Nat → Int64} {fr ct : Nat} {fox foy : Nat → Int64} {on : Nat} {fx fy : Nat → Int64} {n : Nat} (h : HullR fpx fpy fr ct fox foy on fx fy n) {x y : Int64} (hx : s2 x y) : pHolds fx fy n x y = true ↔ mIn fpx fpy false x y fr (fr + ct) := by
  obtain ⟨h1, h2, h3, h4⟩ := h
  rcases h4 with ⟨c0, n0⟩ | ⟨o1, o2, o3, o4, o5⟩
  · constructor
    · intro z; exact absurd n0 (pHolds_iff.mp z).1
    · rintro ⟨a, a1, a2, _⟩; omega
  · rw [pHolds_i o4.poly.pos o5 hx, o4.iff (em_pos _), mIn_f h1 hx]
theorem upd_other {f : Nat → Int64} {k : Nat} {v : Int64} {a : Nat} (h : ¬ a = k) : vp_updL f k v a = f a := by unfold vp_updL; rw [if_neg h]
theorem upd_self {f : Nat → Int64} {k : Nat} {v : Int64} : vp_updL f k v k = v := by unfold vp_updL; rw [if_pos rfl]
theorem ptS_upd {fpx fpy : Nat → Int64} {fr ct : Nat} {x y : Int64} (s : Pt) : ptS (vp_updL fpx (fr + ct) x) (vp_updL fpy (fr + ct) y) fr (fr + (ct + 1)) s ↔ (ptS fpx fpy fr (fr + ct) s ∨ s = ptL x y) := by
  constructor
  · rintro ⟨a, h1, h2, rfl⟩
    by_cases e : a = fr + ct
    · right; unfold pt ptL; rw [e, upd_self, upd_self]
    · left; exact ⟨a, h1, by omega, by unfold pt; rw [upd_other e, upd_other e]⟩
  · rintro (⟨a, h1, h2, rfl⟩ | rfl)
    · exact ⟨a, h1, by omega, by unfold pt; rw [upd_other (by omega), upd_other (by omega)]⟩
    · exact ⟨fr + ct, by omega, by omega, by unfold pt ptL; rw [upd_self, upd_self]⟩
theorem ptsOK_upd {fpx fpy : Nat → Int64} {fr ct : Nat} {x y : Int64} (h : ptsOK fpx fpy fr (fr + ct)) (hx : s2 x y) : ptsOK (vp_updL fpx (fr + ct) x) (vp_updL fpy (fr + ct) y) fr (fr + (ct + 1)) := by
  intro a h1 h2
  by_cases e : a = fr + ct
  · rw [e, upd_self, upd_self]; exact hx
  · rw [upd_other e, upd_other e]; exact h a h1 (by omega)
theorem take_t {fpx fpy : Nat → Int64} {fr ct : Nat} {fox foy : Nat → Int64} {on : Nat} {fx fy : Nat → Int64} {n : Nat} (h : HullR fpx fpy fr ct fox foy on fx fy n) {x y : Int64} (hx : s2 x y) (hh : pHolds fx fy n x y = true) : HullR (vp_updL fpx (fr + ct) x) (vp_updL fpy (fr + ct) y) fr (ct + 1) fox foy on fx fy n := by
  obtain ⟨h1, h2, h3, h4⟩ := h
  refine ⟨ptsOK_upd h1 hx, by omega, h3, ?_⟩
  rcases h4 with ⟨c0, n0⟩ | ⟨o1, o2, o3, o4, o5⟩
  · exact absurd n0 (pHolds_iff.mp hh).1
  · refine Or.inr ⟨o1, o2, o3, ⟨o4.poly, fun s hs => (ptS_upd s).mpr (Or.inl (o4.sub s hs)), fun s hs => ?_⟩, o5⟩
    rcases (ptS_upd s).mp hs with z | z
    · exact o4.cvS s z
    · rw [z]
      exact (o4.poly.cv ((pHolds_i o4.poly.pos o5 hx).mp hh)).mono (fun a ⟨k, hk, e⟩ => by rw [e]; exact o4.poly.mem k hk)
theorem take_f {fpx fpy : Nat → Int64} {fr ct : Nat} {fox foy : Nat → Int64} {on : Nat} {fx fy : Nat → Int64} {n : Nat} (h : HullR fpx fpy fr ct fox foy on fx fy n) {x y : Int64} (hx : s2 x y) (hh : pHolds fx fy n x y = false) : HullR (vp_updL fpx (fr + ct) x) (vp_updL fpy (fr + ct) y) fr (ct + 1) (pInsX on fox foy x y) (pInsY on fox foy x y) (on + 1) ((pCo (pInsX on fox foy x y) (pInsY on fox foy x y) fx fy (on + 1)).1) ((pCo (pInsX on fox foy x y) (pInsY on fox foy x y) fx fy (on + 1)).2.1) (if 1 < on + 1 then (pCo (pInsX on fox foy x y) (pInsY on fox foy x y) fx fy (on + 1)).2.2 - 1 else (pCo (pInsX on fox foy x y) (pInsY on fox foy x y) fx fy (on + 1)).2.2) := by
  obtain ⟨h1, h2, h3, h4⟩ := h
  have hf : ¬ pHolds fx fy n x y = true := by rw [hh]; decide
  have base : (∀ i, i < on → s2 (fox i) (foy i)) ∧ (∀ i j, i < j → j < on → lx (pt fox foy i) (pt fox foy j)) ∧ (∀ i, i < on → ¬ pt fox foy i = ptL x y) ∧ (∀ s, ptS fpx fpy fr (fr + ct) s → Cv (fun s => ∃ j, j < on ∧ s = pt fox foy j) (em s)) ∧ (∀ s, (∃ j, j < on ∧ s = pt fox foy j) → ptS fpx fpy fr (fr + ct) s) := by
    rcases h4 with ⟨c0, n0⟩ | ⟨o1, o2, o3, o4, o5⟩
    · exact ⟨fun i hi => by omega, fun i j a b => by omega, fun i hi => by omega, fun s ⟨a, a1, a2, _⟩ => by omega, fun s ⟨j, hj, _⟩ => by omega⟩
    · refine ⟨o2, o3, fun i hi e => hf ((pHolds_i o4.poly.pos o5 hx).mpr ?_), o4.cvS, o4.sub⟩
      rw [← e]; exact o4.poly.inO ⟨i, hi, rfl⟩
  obtain ⟨b1, b2, b3, b4, b5⟩ := base
  obtain ⟨p1, p2, p3⟩ := pIns_ok b1 b2 hx b3
  obtain ⟨q1, q2, q3⟩ := co_poly (fx := fx) (fy := fy) (N := on + 1) (by omega) p1 p2
  refine ⟨ptsOK_upd h1 hx, by omega, by split <;> omega, Or.inr ⟨by omega, p1, p2, ⟨q1, fun s hs => ?_, fun s hs => ?_⟩, fun i hi => q3 i (by split at hi <;> omega)⟩⟩
  · rcases (p3 s).mp hs with z | z
    · exact (ptS_upd s).mpr (Or.inl (b5 s z))
    · exact (ptS_upd s).mpr (Or.inr z)
  · rcases (ptS_upd s).mp hs with z | z
    · exact (b4 s z).mono (fun a ha => (p3 a).mpr (Or.inl ha))
    · exact self_cv ((p3 s).mpr (Or.inr z))
/-- apart -/
theorem apart_eq {fpx fpy : Nat → Int64} {fr ct fr' ct' : Nat} {fox foy : Nat → Int64} {on : Nat} {fx fy : Nat → Int64} {n : Nat} {gox goy : Nat → Int64} {gn : Nat} {gx gy : Nat → Int64} {m : Nat} (h : HullR fpx fpy fr ct fox foy on fx fy n) (h' : HullR fpx fpy fr' ct' gox goy gn gx gy m) (hc : 0 < ct) (hc' : 0 < ct') :
    pApart fx fy n gx gy m = true ↔ (¬ mIn fpx fpy false (fpx fr') (fpy fr') fr (fr + ct) ∧ ¬ mIn fpx fpy false (fpx fr) (fpy fr) fr' (fr' + ct') ∧ ¬ mX fpx fpy fr (fr + ct) fr' (fr' + ct')) := by
  obtain ⟨h1, h2, h3, h4⟩ := h
  obtain ⟨k1, k2, k3, k4⟩ := h'
  have h4 := h4.resolve_left (by omega)
  have k4 := k4.resolve_left (by omega)
  obtain ⟨o1, o2, o3, o4, o5⟩ := h4
  obtain ⟨p1, p2, p3, p4, p5⟩ := k4
  rw [pApart_i o4.poly.pos p4.poly.pos o5 p5, apart_iff o4 p4 (s0 := pt fpx fpy fr) (t0 := pt fpx fpy fr') ⟨fr, by omega, by omega, rfl⟩ ⟨fr', by omega, by omega, rfl⟩, mIn_f h1 (k1 fr' (by omega) (by omega)), mIn_f k1 (h1 fr (by omega) (by omega)), mX_i h1 k1]
  exact Iff.rfl
theorem apart_z {fpx fpy : Nat → Int64} {fr ct fr' ct' : Nat} {fox foy : Nat → Int64} {on : Nat} {fx fy : Nat → Int64} {n : Nat} {gox goy : Nat → Int64} {gn : Nat} {gx gy : Nat → Int64} {m : Nat} (h : HullR fpx fpy fr ct fox foy on fx fy n) (h' : HullR fpx fpy fr' ct' gox goy gn gx gy m) (hz : ct = 0 ∨ ct' = 0) : pApart fx fy n gx gy m = true := by
  rw [pApart_iff]
  obtain ⟨_, h2, h3, _⟩ := h
  obtain ⟨_, k2, k3, _⟩ := h'
  rcases hz with z | z
  · exact Or.inl (by omega)
  · exact Or.inr (Or.inl (by omega))
