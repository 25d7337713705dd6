/-! Contracts with a free end (what the answer and the world behind it are, as a predicate), and how the ones proved come there. -/
theorem Met_conv2 {l : Launch} {y : MethodName} {ws : List Cond} {rm : Room} {Pc Pc' : Array Value → State → Prop} {Qc Qc' : Array Value → State → Outcome → State → Prop} {mc ms : Nat} {free free' : Addr → Prop} (h : Met l y ws rm Pc Qc mc ms free) (hp : ∀ a s, Pc' a s → Pc a s) (hq : ∀ a s o t, Pc' a s → s.WarmedH t.vm → Qc a s o t → Qc' a s o t) (hf : ∀ q, free q → free' q) : Met l y ws rm Pc' Qc' mc ms free' := by
  intro p e ha hc hk s m args below hfr happ hP hK
  obtain ⟨n, o, h1, h2, h3, h4, L, h5, h6⟩ := h p e ha hc hk s m args below hfr happ (hp _ _ hP) hK
  exact ⟨n, o, h1, h2, h3, hq _ _ _ _ hP h5.2.1 h4, L, h5, fun q hq => hf _ (h6 q hq)⟩
theorem vxMet_conv {l : Launch} {y : MethodName} {ws : List Cond} {rm : Room} {Pc Pc' : Array Value → State → Prop} {Qc Qc' : Array Value → State → Outcome → State → Prop} {XC XC' : String → State → State → Prop} {mc ms : Nat} {free free' : Addr → Prop} (h : vx_Met l y ws rm Pc Qc XC mc ms free) (hp : ∀ a s, Pc' a s → Pc a s) (hq : ∀ a s o t, Pc' a s → s.WarmedH t.vm → Qc a s o t → Qc' a s o t) (hx : ∀ a E s t, Pc' a s → s.WarmedH t.vm → XC E s t → XC' E s t) (hf : ∀ q, free q → free' q) : vx_Met l y ws rm Pc' Qc' XC' mc ms free' := by
  intro p e ha hc hk s m args below hfr happ hP hK
  obtain ⟨n, o, h1, h2, h3, h4⟩ := h p e ha hc hk s m args below hfr happ (hp _ _ hP) hK
  refine ⟨n, o, h1, h2, h3, ?_⟩
  rcases h4 with ⟨h4, L, h5, h6⟩ | ⟨q, e1, E, ce, L, x1, x2, x3, x4, x5, x6, x7⟩
  · exact Or.inl ⟨hq _ _ _ _ hP h5.2.1 h4, L, h5, fun q hq => hf _ (h6 q hq)⟩
  · exact Or.inr ⟨q, e1, E, ce, L, hx _ _ _ _ hP x5 x1, x2, x3, x4, x5, x6, fun z hz => hf _ (x7 z hz)⟩
def GMi (l : Launch) (y : MethodName) (ws : List Cond) (rm : Room) (av : List Value) (D : va_G) (B : va_W) (tys : List (ClassId × FieldType)) (Q : Int32 → va_W → Prop) : Prop :=
  ∀ sz : Nat, Met l y ws rm (va_Pc av (kB D B tys sz)) (va_Qi Q (kEx D (fun w : va_W => w) tys (va_A B sz)) (va_A B sz)) 0 0 (va_A B sz)
def GMl (l : Launch) (y : MethodName) (ws : List Cond) (rm : Room) (av : List Value) (D : va_G) (B : va_W) (tys : List (ClassId × FieldType)) (Q : Int64 → va_W → Prop) : Prop :=
  ∀ sz : Nat, Met l y ws rm (va_Pc av (kB D B tys sz)) (va_Ql Q (kEx D (fun w : va_W => w) tys (va_A B sz)) (va_A B sz)) 0 0 (va_A B sz)
def GMv (l : Launch) (y : MethodName) (ws : List Cond) (rm : Room) (av : List Value) (D : va_G) (B : va_W) (tys : List (ClassId × FieldType)) (Q : va_W → Prop) : Prop :=
  ∀ sz : Nat, Met l y ws rm (va_Pc av (kB D B tys sz)) (va_Qv Q (kEx D (fun w : va_W => w) tys (va_A B sz)) (va_A B sz)) 0 0 (va_A B sz)
def GTx (l : Launch) (y : MethodName) (ws : List Cond) (rm : Room) (av : List Value) (D : va_G) (B : va_W) (tys : List (ClassId × FieldType)) (E : String) (Q : va_W → Prop) (Qr : (Nat → Prop) → Array Value → State → Outcome → State → Prop) : Prop :=
  ∀ sz : Nat, vx_Met l y ws rm (va_Pc av (kTB D B tys sz)) (Qr (va_A B sz)) (vx_X Q (fun E' (u : va_W) t => E' = E ∧ kEx D (fun w : va_W => w) tys (va_A B sz) u t) (va_A B sz)) 1 6 (va_A B sz)
section Up
variable {l : Launch} {y : MethodName} {ws : List Cond} {rm : Room} {av : List Value} {D : va_G} {W W2 R B B2 : va_W} {S : Type} {V2 C2 : S → va_W} {tys tysB : List (ClassId × FieldType)} {E : String}
theorem up_Mi {r : Int32} {Q : Int32 → va_W → Prop} (h : MMi l y ws rm av D W W2 tys r) (hB : B.Perm (W ++ R)) (hs : ∀ q ∈ tys, q ∈ tysB) (hB2 : B2.Perm (W2 ++ R)) (hQ : Q r B2) : GMi l y ws rm av D B tysB Q := fun sz =>
  Met_conv2 (h sz) (fun _ _ hp => ⟨hp.1, lift_pre hB hs hp.2⟩) (fun _ _ _ _ hp hW hq => by
    obtain ⟨⟨r', u, e1, rfl, h1⟩, hF⟩ := hq
    have := lift_post (S := Unit) (u := ()) (V2 := fun _ => W2) (C2 := fun _ => B2) hB hB2 hp.2 h1 (va_K.moved hW.alike hp.2.2.2.1) hF
    exact ⟨⟨_, B2, e1, hQ, this⟩, vaF_mono hF (fun _ hq => vaA_perm hB hq)⟩) (fun _ hq => vaA_perm hB hq)
theorem up_Ml {r : Int64} {Q : Int64 → va_W → Prop} (h : MMl l y ws rm av D W W2 tys r) (hB : B.Perm (W ++ R)) (hs : ∀ q ∈ tys, q ∈ tysB) (hB2 : B2.Perm (W2 ++ R)) (hQ : Q r B2) : GMl l y ws rm av D B tysB Q := fun sz =>
  Met_conv2 (h sz) (fun _ _ hp => ⟨hp.1, lift_pre hB hs hp.2⟩) (fun _ _ _ _ hp hW hq => by
    obtain ⟨⟨r', u, e1, rfl, h1⟩, hF⟩ := hq
    have := lift_post (S := Unit) (u := ()) (V2 := fun _ => W2) (C2 := fun _ => B2) hB hB2 hp.2 h1 (va_K.moved hW.alike hp.2.2.2.1) hF
    exact ⟨⟨_, B2, e1, hQ, this⟩, vaF_mono hF (fun _ hq => vaA_perm hB hq)⟩) (fun _ hq => vaA_perm hB hq)
theorem up_Mv {Q : va_W → Prop} (h : MMv l y ws rm av D W W2 tys) (hB : B.Perm (W ++ R)) (hs : ∀ q ∈ tys, q ∈ tysB) (hB2 : B2.Perm (W2 ++ R)) (hQ : Q B2) : GMv l y ws rm av D B tysB Q := fun sz =>
  Met_conv2 (h sz) (fun _ _ hp => ⟨hp.1, lift_pre hB hs hp.2⟩) (fun _ _ _ _ hp hW hq => by
    obtain ⟨⟨u, e1, _, h1⟩, hF⟩ := hq
    have := lift_post (S := Unit) (u := ()) (V2 := fun _ => W2) (C2 := fun _ => B2) hB hB2 hp.2 h1 (va_K.moved hW.alike hp.2.2.2.1) hF
    exact ⟨⟨B2, e1, hQ, this⟩, vaF_mono hF (fun _ hq => vaA_perm hB hq)⟩) (fun _ hq => vaA_perm hB hq)
theorem up_Xi {r : Int32} {Q : Int32 → va_W → Prop} (h : XMi l y ws rm av D W V2 tys r) (hB : B.Perm (W ++ R)) (hs : ∀ q ∈ tys, q ∈ tysB) (hB2 : ∀ u, (C2 u).Perm (V2 u ++ R)) (hQ : ∀ u, Q r (C2 u)) : GMi l y ws rm av D B tysB Q := fun sz =>
  Met_conv2 (h sz) (fun _ _ hp => ⟨hp.1, lift_pre hB hs hp.2⟩) (fun _ _ _ _ hp hW hq => by
    obtain ⟨⟨r', u, e1, rfl, h1⟩, hF⟩ := hq
    have := lift_post hB (hB2 u) hp.2 h1 (va_K.moved hW.alike hp.2.2.2.1) hF
    exact ⟨⟨_, C2 u, e1, hQ u, this⟩, vaF_mono hF (fun _ hq => vaA_perm hB hq)⟩) (fun _ hq => vaA_perm hB hq)
theorem up_Xl {r : Int64} {Q : Int64 → va_W → Prop} (h : XMl l y ws rm av D W V2 tys r) (hB : B.Perm (W ++ R)) (hs : ∀ q ∈ tys, q ∈ tysB) (hB2 : ∀ u, (C2 u).Perm (V2 u ++ R)) (hQ : ∀ u, Q r (C2 u)) : GMl l y ws rm av D B tysB Q := fun sz =>
  Met_conv2 (h sz) (fun _ _ hp => ⟨hp.1, lift_pre hB hs hp.2⟩) (fun _ _ _ _ hp hW hq => by
    obtain ⟨⟨r', u, e1, rfl, h1⟩, hF⟩ := hq
    have := lift_post hB (hB2 u) hp.2 h1 (va_K.moved hW.alike hp.2.2.2.1) hF
    exact ⟨⟨_, C2 u, e1, hQ u, this⟩, vaF_mono hF (fun _ hq => vaA_perm hB hq)⟩) (fun _ hq => vaA_perm hB hq)
theorem up_Xv {Q : va_W → Prop} (h : XMv l y ws rm av D W V2 tys) (hB : B.Perm (W ++ R)) (hs : ∀ q ∈ tys, q ∈ tysB) (hB2 : ∀ u, (C2 u).Perm (V2 u ++ R)) (hQ : ∀ u, Q (C2 u)) : GMv l y ws rm av D B tysB Q := fun sz =>
  Met_conv2 (h sz) (fun _ _ hp => ⟨hp.1, lift_pre hB hs hp.2⟩) (fun _ _ _ _ hp hW hq => by
    obtain ⟨⟨u, e1, _, h1⟩, hF⟩ := hq
    have := lift_post hB (hB2 u) hp.2 h1 (va_K.moved hW.alike hp.2.2.2.1) hF
    exact ⟨⟨C2 u, e1, hQ u, this⟩, vaF_mono hF (fun _ hq => vaA_perm hB hq)⟩) (fun _ hq => vaA_perm hB hq)
theorem vaF_same {A : Nat → Prop} {st t : State} (h : t.heap = st.heap) : va_F A st t := ⟨by rw [h]; exact Nat.le_refl _, fun _ _ _ => by rw [h]⟩
/-- a read -/
theorem up_Pi {r : Int32} {Q : Int32 → va_W → Prop} (h : PMi l y ws rm av D W tys r) (hB : ∀ q ∈ W, q ∈ B) (hs : ∀ q ∈ tys, q ∈ tysB) (hQ : Q r B) : GMi l y ws rm av D B tysB Q := fun sz =>
  Met_conv2 h (fun _ _ hp => ⟨hp.1, vaP_iff.mpr fun q hq => vaP_iff.mp hp.2.2.1 q (hB q hq), vaK_sub hp.2.2.2.1 hs⟩) (fun _ _ _ _ hp hW hq => by
    obtain ⟨r', e1, rfl, h1⟩ := hq
    obtain ⟨z1, z2, z3, z4⟩ := hp.2
    exact ⟨⟨_, B, e1, hQ, by rw [h1]; exact z2, va_K.moved hW.alike z3, z4.self⟩, vaF_same h1⟩) (fun _ hq => hq.elim)
theorem up_Pl {r : Int64} {Q : Int64 → va_W → Prop} (h : PMl l y ws rm av D W tys r) (hB : ∀ q ∈ W, q ∈ B) (hs : ∀ q ∈ tys, q ∈ tysB) (hQ : Q r B) : GMl l y ws rm av D B tysB Q := fun sz =>
  Met_conv2 h (fun _ _ hp => ⟨hp.1, vaP_iff.mpr fun q hq => vaP_iff.mp hp.2.2.1 q (hB q hq), vaK_sub hp.2.2.2.1 hs⟩) (fun _ _ _ _ hp hW hq => by
    obtain ⟨r', e1, rfl, h1⟩ := hq
    obtain ⟨z1, z2, z3, z4⟩ := hp.2
    exact ⟨⟨_, B, e1, hQ, by rw [h1]; exact z2, va_K.moved hW.alike z3, z4.self⟩, vaF_same h1⟩) (fun _ hq => hq.elim)
theorem tS_narrow {A A' : Nat → Prop} {U : State} (h : tS A U) (hAB : ∀ q, A' q → A q) : tS A' U := ⟨vx_Zq.narrow h.1 hAB, vx_Zq.narrow h.2.1 hAB, h.2.2⟩
theorem up_Ti {Q : va_W → Prop} (h : TMi l y ws rm av D W V2 tys E) (hlt : l.stackTraces = false) (hB : B.Perm (W ++ R)) (hs : ∀ q ∈ tys, q ∈ tysB) (hB2 : ∀ u, (C2 u).Perm (V2 u ++ R)) (hQ : ∀ u, Q (C2 u)) : GTx l y ws rm av D B tysB E Q (fun A => va_Qi (fun _ (_ : Unit) => False) (fun _ _ => True) A) := fun sz =>
  vxMet_conv (h hlt sz) (fun _ _ hp => ⟨hp.1, lift_pre hB hs hp.2.1, tS_narrow hp.2.2 (fun _ hq => vaA_perm hB hq)⟩) (fun _ _ _ _ hp hW hq => by
    obtain ⟨⟨r', u, e1, hf, _⟩, hF⟩ := hq
    exact hf.elim) (fun _ _ _ _ hp hW hx => by
    obtain ⟨u, _, ⟨rfl, h1⟩, hF⟩ := hx
    have := lift_post hB (hB2 u) hp.2.1 h1 (va_K.moved hW.alike hp.2.1.2.2.1) hF
    exact ⟨C2 u, hQ u, ⟨rfl, this⟩, vaF_mono hF (fun _ hq => vaA_perm hB hq)⟩) (fun _ hq => vaA_perm hB hq)
theorem up_Tl {Q : va_W → Prop} (h : TMl l y ws rm av D W V2 tys E) (hlt : l.stackTraces = false) (hB : B.Perm (W ++ R)) (hs : ∀ q ∈ tys, q ∈ tysB) (hB2 : ∀ u, (C2 u).Perm (V2 u ++ R)) (hQ : ∀ u, Q (C2 u)) : GTx l y ws rm av D B tysB E Q (fun A => va_Ql (fun _ (_ : Unit) => False) (fun _ _ => True) A) := fun sz =>
  vxMet_conv (h hlt sz) (fun _ _ hp => ⟨hp.1, lift_pre hB hs hp.2.1, tS_narrow hp.2.2 (fun _ hq => vaA_perm hB hq)⟩) (fun _ _ _ _ hp hW hq => by
    obtain ⟨⟨r', u, e1, hf, _⟩, hF⟩ := hq
    exact hf.elim) (fun _ _ _ _ hp hW hx => by
    obtain ⟨u, _, ⟨rfl, h1⟩, hF⟩ := hx
    have := lift_post hB (hB2 u) hp.2.1 h1 (va_K.moved hW.alike hp.2.1.2.2.1) hF
    exact ⟨C2 u, hQ u, ⟨rfl, this⟩, vaF_mono hF (fun _ hq => vaA_perm hB hq)⟩) (fun _ hq => vaA_perm hB hq)
end Up
