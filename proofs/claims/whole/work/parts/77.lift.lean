/-! Contracts over a part of a world, taken to the whole world (frame and consequence). -/
theorem vaP_iff {D : va_G} {cl : List vw_C} {ws : va_W} {H : Heap} : va_P D cl ws H ↔ ∀ q ∈ ws, va_at D cl q H := by
  constructor
  · intro h q hq
    obtain ⟨k, hk⟩ := List.getElem?_of_mem hq
    exact h k q hk
  · intro h k q hk
    exact h q (List.mem_of_getElem? hk)
theorem vaD_iff {A : Nat → Prop} {ws : va_W} : va_D A ws ↔ (ws.map Prod.fst).Nodup ∧ ∀ q ∈ ws, A q.1 := by
  unfold va_D
  constructor
  · rintro ⟨h1, h2⟩
    refine ⟨?_, fun q hq => by obtain ⟨k, hk⟩ := List.getElem?_of_mem hq; exact h2 k q hk⟩
    rw [List.Nodup, List.pairwise_iff_getElem]
    intro i j hi hj hij
    rw [List.getElem_map, List.getElem_map]
    intro e
    have hi' : i < ws.length := by simpa using hi
    have hj' : j < ws.length := by simpa using hj
    have := h1 i j _ _ (List.getElem?_eq_getElem hi') (List.getElem?_eq_getElem hj') e
    omega
  · rintro ⟨h1, h2⟩
    refine ⟨fun i j p q hi hj e => ?_, fun k q hk => h2 q (List.mem_of_getElem? hk)⟩
    rw [List.Nodup, List.pairwise_iff_getElem] at h1
    have hi' : (ws.map Prod.fst)[i]? = some p.1 := by rw [List.getElem?_map, hi]; rfl
    have hj' : (ws.map Prod.fst)[j]? = some q.1 := by rw [List.getElem?_map, hj]; rfl
    obtain ⟨li, ei⟩ := List.getElem?_eq_some_iff.mp hi'
    obtain ⟨lj, ej⟩ := List.getElem?_eq_some_iff.mp hj'
    rcases Nat.lt_trichotomy i j with z | z | z
    · exact absurd (by rw [ei, ej, e]) (h1 i j li lj z)
    · exact z
    · exact absurd (by rw [ei, ej, e]) (h1 j i lj li z)
theorem vaP_perm {D : va_G} {cl : List vw_C} {B W : va_W} {H : Heap} (hp : B.Perm W) (h : va_P D cl B H) : va_P D cl W H := vaP_iff.mpr fun q hq => vaP_iff.mp h q (hp.mem_iff.mpr hq)
theorem vaD_perm {A : Nat → Prop} {B W : va_W} (hp : B.Perm W) (h : va_D A B) : va_D A W := by
  rw [vaD_iff] at h ⊢
  exact ⟨(hp.map Prod.fst).nodup_iff.mp h.1, fun q hq => h.2 q (hp.mem_iff.mpr hq)⟩
theorem vaA_iff {ws : va_W} {sz q : Nat} : va_A ws sz q ↔ (∃ x ∈ ws, x.1 = q) ∨ sz ≤ q := by
  unfold va_A
  constructor
  · rintro (⟨k, e, h⟩ | h)
    · exact Or.inl ⟨(q, e), List.mem_of_getElem? h, rfl⟩
    · exact Or.inr h
  · rintro (⟨⟨a, e⟩, hx, rfl⟩ | h)
    · obtain ⟨k, hk⟩ := List.getElem?_of_mem hx
      exact Or.inl ⟨k, e, hk⟩
    · exact Or.inr h
/-- what is behind a call that knew a part W of the world: that part as it left it, and the rest R -/
theorem join_perm {D : va_G} {W W2 R : va_W} {T : Nat → Prop} {st t : State} (hP : va_P D vwCl (W ++ R) st.heap) (hD : va_D T (W ++ R)) (hP2 : va_P D vwCl W2 t.heap) (hD2 : va_D (va_A W st.heap.size) W2) (hF : va_F (va_A W st.heap.size) st t) :
    va_P D vwCl (W2 ++ R) t.heap ∧ va_D (va_A (W ++ R) st.heap.size) (W2 ++ R) := by
  rw [vaP_iff] at hP hP2
  rw [vaD_iff] at hD hD2
  rw [List.map_append, List.nodup_append] at hD
  have hlt : ∀ q ∈ W ++ R, q.1 < st.heap.size := fun q hq => (hP q hq).lt
  have hno : ∀ q ∈ R, ¬ va_A W st.heap.size q.1 := by
    intro q hq h
    rcases vaA_iff.mp h with ⟨x, hx, e⟩ | h
    · exact hD.1.2.2 x.1 (List.mem_map_of_mem hx) q.1 (List.mem_map_of_mem hq) e
    · have := hlt q (List.mem_append_right _ hq); omega
  have hsub : ∀ a, va_A W st.heap.size a → va_A (W ++ R) st.heap.size a := by
    intro a h
    rcases vaA_iff.mp h with ⟨x, hx, e⟩ | h
    · exact vaA_iff.mpr (Or.inl ⟨x, List.mem_append_left _ hx, e⟩)
    · exact vaA_iff.mpr (Or.inr h)
  refine ⟨vaP_iff.mpr ?_, vaD_iff.mpr ⟨?_, ?_⟩⟩
  · intro q hq
    rcases List.mem_append.mp hq with h | h
    · exact hP2 q h
    · exact (hP q (List.mem_append_right _ h)).kept (hF.2 q.1 (hlt q (List.mem_append_right _ h)) (hno q h))
  · rw [List.map_append, List.nodup_append]
    refine ⟨hD2.1, hD.1.2.1, ?_⟩
    intro a ha b hb e
    obtain ⟨x, hx, rfl⟩ := List.mem_map.mp ha
    obtain ⟨y, hy, rfl⟩ := List.mem_map.mp hb
    exact hno y hy (e ▸ hD2.2 x hx)
  · intro q hq
    rcases List.mem_append.mp hq with h | h
    · exact hsub _ (hD2.2 q h)
    · exact vaA_iff.mpr (Or.inl ⟨q, List.mem_append_right _ h, rfl⟩)
theorem vaA_perm {B W R : va_W} {sz a : Nat} (hB : B.Perm (W ++ R)) (h : va_A W sz a) : va_A B sz a := by
  rcases vaA_iff.mp h with ⟨x, hx, e⟩ | h
  · exact vaA_iff.mpr (Or.inl ⟨x, hB.mem_iff.mpr (List.mem_append_left _ hx), e⟩)
  · exact vaA_iff.mpr (Or.inr h)
theorem vaA_perm2 {B W : va_W} {sz a : Nat} (hB : B.Perm W) (h : va_A W sz a) : va_A B sz a := by
  rcases vaA_iff.mp h with ⟨x, hx, e⟩ | h
  · exact vaA_iff.mpr (Or.inl ⟨x, hB.mem_iff.mpr hx, e⟩)
  · exact vaA_iff.mpr (Or.inr h)
theorem vaF_mono {A B : Nat → Prop} {st t : State} (h : va_F A st t) (hAB : ∀ q, A q → B q) : va_F B st t := ⟨h.1, fun q h1 h2 => h.2 q h1 (fun z => h2 (hAB q z))⟩
theorem Met_conv {l : Launch} {y : MethodName} {ws : List Cond} {rm : Room} {Pc Pc' : Array Value → State → Prop} {Qc Qc' : Array Value → State → Outcome → State → Prop} {mc ms : Nat} {free free' : Addr → Prop} (h : Met l y ws rm Pc Qc mc ms free) (hp : ∀ a s, Pc' a s → Pc a s) (hq : ∀ a s o t, Pc' a s → Qc a s o t → Qc' a s o t) (hf : ∀ q, free q → free' q) : Met l y ws rm Pc' Qc' mc ms free' := by
  intro p e ha hc hk s m args below hfr happ hP hK
  obtain ⟨n, o, h1, h2, h3, h4, L, h5, h6⟩ := h p e ha hc hk s m args below hfr happ (hp _ _ hP) hK
  exact ⟨n, o, h1, h2, h3, hq _ _ _ _ hP h4, L, h5, fun q hq => hf _ (h6 q hq)⟩
theorem vaK_sub {D : va_G} {tys tysB : List (ClassId × FieldType)} {U : State} (h : va_K D vwCl tysB U) (hs : ∀ q ∈ tys, q ∈ tysB) : va_K D vwCl tys U := ⟨h.1, fun k q hk => by
  obtain ⟨j, hj⟩ := List.getElem?_of_mem (hs q (List.mem_of_getElem? hk))
  exact h.2 j q hj⟩
section Lift
variable {l : Launch} {y : MethodName} {ws : List Cond} {rm : Room} {av : List Value} {D : va_G} {W W2 R B B2 : va_W} {S : Type} {V2 C2 : S → va_W} {tys tysB : List (ClassId × FieldType)} {E : String}
theorem lift_pre {sz : Nat} (hB : B.Perm (W ++ R)) (hs : ∀ q ∈ tys, q ∈ tysB) {U : State} (h : kB D B tysB sz U) : kB D W tys sz U := by
  obtain ⟨h1, h2, h3, h4⟩ := h
  refine ⟨h1, vaP_iff.mpr fun q hq => vaP_iff.mp h2 q (hB.mem_iff.mpr (List.mem_append_left _ hq)), vaK_sub h3 hs, ?_⟩
  have := vaD_perm hB h4
  rw [vaD_iff, List.map_append, List.nodup_append] at this
  exact vaD_iff.mpr ⟨this.1.1, fun _ _ => trivial⟩
theorem lift_post {sz : Nat} {u : S} (hB : B.Perm (W ++ R)) (hB2 : (C2 u).Perm (V2 u ++ R)) {st t : State} (hpre : kB D B tysB sz st) (hpost : va_P D vwCl (V2 u) t.heap ∧ va_K D vwCl tys t ∧ va_D (va_A W sz) (V2 u)) (hKt : va_K D vwCl tysB t) (hF : va_F (va_A W sz) st t) : kEx D C2 tysB (va_A B sz) u t := by
  obtain ⟨h1, h2, h3, h4⟩ := hpre
  subst h1
  obtain ⟨a, b⟩ := join_perm (vaP_perm hB h2) (vaD_perm hB h4) hpost.1 hpost.2.2 hF
  exact ⟨vaP_perm hB2.symm a, hKt, vaD_perm hB2.symm (b.weaken (fun _ q _ hq => vaA_perm2 hB hq))⟩
end Lift
