/-! What the class's state is: its cells, by its parts; worlds made of chunks, and their order. -/
def hC (cJ : ClassId) (a : Nat × Nat × Nat × Nat × Nat) (d : Nat × Nat × Nat) (f : (Nat → Int64) × (Nat → Int64) × (Nat → Int64) × (Nat → Int64)) : va_W :=
  [(a.1, .inr (1, [.int (nI d.1), .ref a.2.1, .ref a.2.2.1, .int (nI d.2.1), .ref a.2.2.2.1, .ref a.2.2.2.2, .int (nI d.2.2)])), (a.2.1, .inl (cJ, 16, .inr (.inl f.1))), (a.2.2.1, .inl (cJ, 16, .inr (.inl f.2.1))), (a.2.2.2.1, .inl (cJ, 32, .inr (.inl f.2.2.1))), (a.2.2.2.2, .inl (cJ, 32, .inr (.inl f.2.2.2)))]
def bC (a : Nat) (d : Int64 × Int64 × Int64 × Int64 × Int64 × Int64) : Nat × va_E := (a, .inr (0, [.long d.1, .long d.2.1, .long d.2.2.1, .long d.2.2.2.1, .long d.2.2.2.2.1, .long d.2.2.2.2.2]))
def tC (a : Nat) (d : Int64 × Int64 × Nat × Option Nat × Int64 × Int64) : Nat × va_E := (a, .inr (3, [.long d.1, .long d.2.1, .int (axI d.2.2.1), .int (mI d.2.2.2.1), .long d.2.2.2.2.1, .long d.2.2.2.2.2]))
def mtC (a : Nat) (d : Int64 × Int64 × Int64 × Int64 × Bool) : Nat × va_E := (a, .inr (2, [.long d.1, .long d.2.1, .long d.2.2.1, .long d.2.2.2.1, .int (bI d.2.2.2.2)]))
def hP_ (cJ : ClassId) (ha : Nat → Nat × Nat × Nat × Nat × Nat) (hd : Nat → Nat × Nat × Nat) (hf : Nat → (Nat → Int64) × (Nat → Int64) × (Nat → Int64) × (Nat → Int64)) (n : Nat) : va_W := (List.range n).flatMap (fun j => hC cJ (ha j) (hd j) (hf j))
def bP_ (ba : Nat → Nat) (bd : Nat → Int64 × Int64 × Int64 × Int64 × Int64 × Int64) (n : Nat) : va_W := (List.range n).map (fun j => bC (ba j) (bd j))
def tP_ (ta : Nat → Nat) (ft : Nat → Int64 × Int64 × Nat × Option Nat × Int64 × Int64) (n : Nat) : va_W := (List.range n).map (fun j => tC (ta j) (ft j))
/-- chunks, one behind the other -/
def cat : List va_W → va_W
  | [] => []
  | [a] => a
  | a :: b :: r => a ++ cat (b :: r)
theorem cat_flat : ∀ l : List va_W, cat l = l.flatten
  | [] => rfl
  | [a] => by simp [cat]
  | a :: b :: r => by rw [cat, cat_flat (b :: r)]; rfl
theorem cat_perm {l k : List va_W} (h : l.Perm k) : (cat l).Perm (cat k) := by
  rw [cat_flat, cat_flat]
  induction h with
  | nil => exact List.Perm.refl _
  | cons x _ ih => rw [List.flatten_cons, List.flatten_cons]; exact List.Perm.append_left x ih
  | swap x y l => simp only [List.flatten_cons, ← List.append_assoc]; exact List.Perm.append_right _ List.perm_append_comm
  | trans _ _ h1 h2 => exact h1.trans h2
/-- the same chunks in another order, by their places -/
theorem cat_by {l k : List va_W} {B W : va_W} (ps : List Nat) (hB : B = cat l) (hW : W = cat k) (hk : ps.map (fun i => l[i]?) = k.map some) (hp : ps.isPerm (List.range l.length) = true) : B.Perm W := by
  rw [hB, hW]
  apply cat_perm
  have h1 := (List.isPerm_iff.mp hp).map (fun i => l[i]?)
  rw [hk] at h1
  have h2 : (List.range l.length).map (fun i => l[i]?) = l.map some := by
    apply List.ext_getElem
    · simp
    · intro i a b; simp at a; simp [a]
  rw [h2] at h1
  have h3 := h1.filterMap id
  simp only [List.filterMap_map] at h3
  simpa using h3.symm
/-- one of many comes first -/
theorem range_first {n s : Nat} (h : s < n) : (List.range n).Perm (s :: (List.range n).erase s) := List.perm_cons_erase (List.mem_range.mpr h)
def hR_ (cJ : ClassId) (ha : Nat → Nat × Nat × Nat × Nat × Nat) (hd : Nat → Nat × Nat × Nat) (hf : Nat → (Nat → Int64) × (Nat → Int64) × (Nat → Int64) × (Nat → Int64)) (l : List Nat) : va_W := l.flatMap (fun j => hC cJ (ha j) (hd j) (hf j))
theorem hR_perm {cJ : ClassId} {ha : Nat → Nat × Nat × Nat × Nat × Nat} {hd : Nat → Nat × Nat × Nat} {hf : Nat → (Nat → Int64) × (Nat → Int64) × (Nat → Int64) × (Nat → Int64)} {l k : List Nat} (h : l.Perm k) : (hR_ cJ ha hd hf l).Perm (hR_ cJ ha hd hf k) := by
  unfold hR_
  induction h with
  | nil => exact List.Perm.refl _
  | cons x _ ih => rw [List.flatMap_cons, List.flatMap_cons]; exact List.Perm.append_left _ ih
  | swap x y l => simp only [List.flatMap_cons, ← List.append_assoc]; exact List.Perm.append_right _ List.perm_append_comm
  | trans _ _ h1 h2 => exact h1.trans h2
theorem hP_first {cJ : ClassId} {ha : Nat → Nat × Nat × Nat × Nat × Nat} {hd : Nat → Nat × Nat × Nat} {hf : Nat → (Nat → Int64) × (Nat → Int64) × (Nat → Int64) × (Nat → Int64)} {n s : Nat} (h : s < n) : (hP_ cJ ha hd hf n).Perm (hC cJ (ha s) (hd s) (hf s) ++ hR_ cJ ha hd hf ((List.range n).erase s)) := hR_perm (range_first h)
theorem hP_two {cJ : ClassId} {ha : Nat → Nat × Nat × Nat × Nat × Nat} {hd : Nat → Nat × Nat × Nat} {hf : Nat → (Nat → Int64) × (Nat → Int64) × (Nat → Int64) × (Nat → Int64)} {n s t : Nat} (h : s < n) (ht : t < n) (hst : t ≠ s) : (hP_ cJ ha hd hf n).Perm (hC cJ (ha s) (hd s) (hf s) ++ (hC cJ (ha t) (hd t) (hf t) ++ hR_ cJ ha hd hf (((List.range n).erase s).erase t))) :=
  (hP_first h).trans (List.Perm.append_left _ (hR_perm (List.perm_cons_erase ((List.mem_erase_of_ne hst).mpr (List.mem_range.mpr ht)))))
theorem hR_congr {cJ : ClassId} {ha : Nat → Nat × Nat × Nat × Nat × Nat} {hd hd' : Nat → Nat × Nat × Nat} {hf hf' : Nat → (Nat → Int64) × (Nat → Int64) × (Nat → Int64) × (Nat → Int64)} {l : List Nat} (h : ∀ j ∈ l, hd j = hd' j ∧ hf j = hf' j) : hR_ cJ ha hd hf l = hR_ cJ ha hd' hf' l := by
  unfold hR_
  induction l with
  | nil => rfl
  | cons x r ih =>
    rw [List.flatMap_cons, List.flatMap_cons, (h x List.mem_cons_self).1, (h x List.mem_cons_self).2, ih (fun j hj => h j (List.mem_cons_of_mem _ hj))]
theorem not_mem_erase_range {n s j : Nat} (h : j ∈ (List.range n).erase s) : j ≠ s := by
  intro e
  subst e
  exact absurd h (List.Nodup.not_mem_erase List.nodup_range)
theorem hP_set {cJ : ClassId} {ha : Nat → Nat × Nat × Nat × Nat × Nat} {hd : Nat → Nat × Nat × Nat} {hf : Nat → (Nat → Int64) × (Nat → Int64) × (Nat → Int64) × (Nat → Int64)} {n s : Nat} (h : s < n) (d : Nat × Nat × Nat) (f : (Nat → Int64) × (Nat → Int64) × (Nat → Int64) × (Nat → Int64)) :
    (hP_ cJ ha (fun j => if j = s then d else hd j) (fun j => if j = s then f else hf j) n).Perm (hC cJ (ha s) d f ++ hR_ cJ ha hd hf ((List.range n).erase s)) := by
  have h1 := hP_first (cJ := cJ) (ha := ha) (hd := fun j => if j = s then d else hd j) (hf := fun j => if j = s then f else hf j) h
  simp only [if_true] at h1
  rw [hR_congr (hd' := hd) (hf' := hf) (fun j hj => by simp [not_mem_erase_range hj])] at h1
  exact h1
def bR_ (ba : Nat → Nat) (bd : Nat → Int64 × Int64 × Int64 × Int64 × Int64 × Int64) (l : List Nat) : va_W := l.map (fun j => bC (ba j) (bd j))
theorem bP_first {ba : Nat → Nat} {bd : Nat → Int64 × Int64 × Int64 × Int64 × Int64 × Int64} {n s : Nat} (h : s < n) : (bP_ ba bd n).Perm ([bC (ba s) (bd s)] ++ bR_ ba bd ((List.range n).erase s)) := (range_first h).map _
theorem bP_two {ba : Nat → Nat} {bd : Nat → Int64 × Int64 × Int64 × Int64 × Int64 × Int64} {n s t : Nat} (h : s < n) (ht : t < n) (hst : t ≠ s) : (bP_ ba bd n).Perm ([bC (ba s) (bd s)] ++ ([bC (ba t) (bd t)] ++ bR_ ba bd (((List.range n).erase s).erase t))) :=
  (bP_first h).trans (List.Perm.append_left _ ((List.perm_cons_erase ((List.mem_erase_of_ne hst).mpr (List.mem_range.mpr ht))).map _))
theorem bP_set {ba : Nat → Nat} {bd : Nat → Int64 × Int64 × Int64 × Int64 × Int64 × Int64} {n s : Nat} (h : s < n) (d : Int64 × Int64 × Int64 × Int64 × Int64 × Int64) :
    (bP_ ba (fun j => if j = s then d else bd j) n).Perm ([bC (ba s) d] ++ bR_ ba bd ((List.range n).erase s)) := by
  have h1 := bP_first (ba := ba) (bd := fun j => if j = s then d else bd j) h
  simp only [if_true] at h1
  have h2 : bR_ ba (fun j => if j = s then d else bd j) ((List.range n).erase s) = bR_ ba bd ((List.range n).erase s) := by
    unfold bR_
    apply List.map_congr_left
    intro j hj
    simp [not_mem_erase_range hj]
  rw [h2] at h1
  exact h1
def tR_ (ta : Nat → Nat) (ft : Nat → Int64 × Int64 × Nat × Option Nat × Int64 × Int64) (l : List Nat) : va_W := l.map (fun j => tC (ta j) (ft j))
theorem tP_first {ta : Nat → Nat} {ft : Nat → Int64 × Int64 × Nat × Option Nat × Int64 × Int64} {n s : Nat} (h : s < n) : (tP_ ta ft n).Perm ([tC (ta s) (ft s)] ++ tR_ ta ft ((List.range n).erase s)) := (range_first h).map _
section KLC
variable {p : Program} {l : Launch} {e : Env} {R : Room} {s : State} {m : MethodId} {args : Array Value} {below : List Frame} {meth : Method} {c : Code} {H : Heap} {locs : List Loc} {Q : State → Prop} {pc : Nat} {ls : Array Slot} {rest : List Value}
/-- a loop whose room grows -/
theorem kLoopC {σ : Type} (I : σ → Heap → List Loc → Array Slot → Prop) (μ cf sf : σ → Nat)
    (body : ∀ (x : σ) (H : Heap) (locs : List Loc) (ls : Array Slot), I x H locs ls → (∀ (x' : σ) (H' : Heap) (locs' : List Loc) (ls' : Array Slot), I x' H' locs' ls' → μ x' < μ x → W p l e R s m args below meth c H' locs' (cf x') (sf x') Q (F0 m pc ls' rest)) → W p l e R s m args below meth c H locs (cf x) (sf x) Q (F0 m pc ls rest))
    (x : σ) (h : I x H locs ls) : W p l e R s m args below meth c H locs (cf x) (sf x) Q (F0 m pc ls rest) := by
  have key : ∀ (n : Nat) (x : σ) (H : Heap) (locs : List Loc) (ls : Array Slot), I x H locs ls → μ x < n → W p l e R s m args below meth c H locs (cf x) (sf x) Q (F0 m pc ls rest) := by
    intro n
    induction n with
    | zero => intro x H locs ls _ h; exact absurd h (Nat.not_lt_zero _)
    | succ n ih => intro x H locs ls hI h; exact body x H locs ls hI (fun x' H' locs' ls' hI' h' => ih x' H' locs' ls' hI' (by omega))
  exact key (μ x + 1) x H locs ls h (Nat.lt_succ_self _)
end KLC
