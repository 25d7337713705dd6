/-! the world of the law: the array of answers, the class, the reference -/
abbrev CD : Type := Nat × Nat × Nat × (Nat → Nat × Nat × Nat) × (Nat → (Nat → Int64) × (Nat → Int64) × (Nat → Int64) × (Nat → Int64)) × (Nat → Int64 × Int64 × Int64 × Int64 × Int64 × Int64) × (Nat → Int32) × (Int64 × Int64 × Int64 × Int64 × Int64 × Int64) × (Int64 × Int64 × Int64 × Int64 × Int64 × Int64) × (Int64 × Int64 × Int64 × Int64 × Bool) × (Nat → Int64 × Int64 × Nat × Option Nat × Int64 × Int64)
abbrev ED : Type := Nat × (Nat → Int64) × (Nat → Int64) × (Nat → Nat) × Nat × (Nat → Int64) × (Nat → Int64) × (Nat → Bool) × (Nat → Int64) × (Nat → Int64) × Nat
abbrev ZD : Type := Nat × (Nat → Nat) × (Nat → Int64) × (Nat → Int64) × Int64 × Int64 × (Nat → Int64) × (Nat → Int64) × Nat × Int64 × Int64 × Int64 × Int64
def obC (ob ahl nh abl kb asr pb atr nt tb mt : Nat) : Nat × va_E := (ob, .inr (4, [.ref ahl, .int (nI nh), .ref abl, .int (nI kb), .ref asr, .ref pb, .ref atr, .int (nI nt), .ref tb, .ref mt]))
def omC (om apx apy act asd amv asl apl asw aor aon atw aup alw cd : Nat) (e : ED) (z : ZD) : Nat × va_E := (om, .inr (5, [.int (nI cd), .int (nI e.1), .ref apx, .ref apy, .ref act, .int (nI e.2.2.2.2.1), .ref asd, .ref amv, .ref asl, .ref apl, .ref asw, .int (nI e.2.2.2.2.2.2.2.2.2.2), .ref aor, .int (nI z.1), .ref aon, .ref atw, .long z.2.2.2.2.1, .long z.2.2.2.2.2.1, .ref aup, .ref alw, .int (nI z.2.2.2.2.2.2.2.2.1), .long z.2.2.2.2.2.2.2.2.2.1, .long z.2.2.2.2.2.2.2.2.2.2.1, .long z.2.2.2.2.2.2.2.2.2.2.2.1, .long z.2.2.2.2.2.2.2.2.2.2.2.2]))
def rC (cJ cI cZ cH cB cT : ClassId) (ahl abl asr pb atr tb mt : Nat) (fhl fbl ftr : Nat → Option Nat) (hA_ : Nat → Nat × Nat × Nat × Nat × Nat) (bA_ tA_ : Nat → Nat) (c : CD) : va_W :=
  [(ahl, .inl (cH, 16, .inr (.inr (.inr (.inr fhl))))), (abl, .inl (cB, 16, .inr (.inr (.inr (.inr fbl))))), (asr, .inl (cI, 24, .inl c.2.2.2.2.2.2.1)), bC pb c.2.2.2.2.2.2.2.1, (atr, .inl (cT, 8, .inr (.inr (.inr (.inr ftr))))), bC tb c.2.2.2.2.2.2.2.2.1, mtC mt c.2.2.2.2.2.2.2.2.2.1] ++ (hP_ cJ hA_ c.2.2.2.1 c.2.2.2.2.1 16 ++ (bP_ bA_ c.2.2.2.2.2.1 16 ++ tP_ tA_ c.2.2.2.2.2.2.2.2.2.2 8))
def rM (cJ cI cZ : ClassId) (apx apy act asd amv asl apl asw aor aon atw aup alw : Nat) (e : ED) (z : ZD) : va_W :=
  [(apx, .inl (cJ, 256, .inr (.inl e.2.1))), (apy, .inl (cJ, 256, .inr (.inl e.2.2.1))), (act, .inl (cI, 16, .inl (nF e.2.2.2.1))), (asd, .inl (cJ, 64, .inr (.inl e.2.2.2.2.2.1))), (amv, .inl (cJ, 32, .inr (.inl e.2.2.2.2.2.2.1))), (asl, .inl (cZ, 576, .inl (bF e.2.2.2.2.2.2.2.1))), (apl, .inl (cJ, 4, .inr (.inl e.2.2.2.2.2.2.2.2.1))), (asw, .inl (cJ, 48, .inr (.inl e.2.2.2.2.2.2.2.2.2.1))), (aor, .inl (cI, 16, .inl (nF z.2.1))), (aon, .inl (cJ, 4, .inr (.inl z.2.2.1))), (atw, .inl (cJ, 4, .inr (.inl z.2.2.2.1))), (aup, .inl (cJ, 12, .inr (.inl z.2.2.2.2.2.2.1))), (alw, .inl (cJ, 12, .inr (.inl z.2.2.2.2.2.2.2.1)))]
def LWd (cJ cI cZ cH cB cT : ClassId) (out ob om ahl abl asr pb atr tb mt : Nat) (fhl fbl ftr : Nat → Option Nat) (hA_ : Nat → Nat × Nat × Nat × Nat × Nat) (bA_ tA_ : Nat → Nat) (apx apy act asd amv asl apl asw aor aon atw aup alw : Nat) (fo : Nat → Int64) (c : CD) (cd : Nat) (e : ED) (z : ZD) : va_W :=
  [(out, .inl (cJ, 1, .inr (.inl fo))), obC ob ahl c.1 abl c.2.1 asr pb atr c.2.2.1 tb mt, omC om apx apy act asd amv asl apl asw aor aon atw aup alw cd e z] ++ (rC cJ cI cZ cH cB cT ahl abl asr pb atr tb mt fhl fbl ftr hA_ bA_ tA_ c ++ rM cJ cI cZ apx apy act asd amv asl apl asw aor aon atw aup alw e z)
def tysL (cJ cI cZ cH cB cT : ClassId) : List (ClassId × FieldType) := [(cJ, .long), (cI, .int), (cZ, .boolean), (cH, .object "SweptBoxes$Hull"), (cB, .object "SweptBoxes$Block"), (cT, .object "SweptBoxes$Trace")]
theorem cat_by2 {l k : List va_W} {B W : va_W} (n : Nat) (ps : List Nat) (hB : B = cat l) (hW : W = cat k) (hn : l.length = n) (hk : ps.map (fun i => l[i]?) = k.map some) (hp : ps.isPerm (List.range n) = true) : B.Perm W := cat_by ps hB hW hk (by rw [hn]; exact hp)
/-! rooms -/
theorem hasRoom_mono {s : State} {pl : Platform} {r r' : Room} (h : s.hasRoom pl r' = true) (h1 : r.frames ≤ r'.frames) (h2 : r.cells ≤ r'.cells) (h3 : r.slots ≤ r'.slots) (h4 : r.locals ≤ r'.locals) : s.hasRoom pl r = true := by
  unfold State.hasRoom at *
  simp only [Bool.and_eq_true, decide_eq_true_eq] at *
  obtain ⟨⟨⟨⟨a, b1, b2, b3, b4, b5⟩, d⟩, e⟩, f⟩ := h
  exact ⟨⟨⟨⟨by omega, by omega, by omega, by omega, by omega, b5⟩, by omega⟩, by omega⟩, f⟩
def rLe (r r' : Room) : Prop := r.frames ≤ r'.frames ∧ r.cells ≤ r'.cells ∧ r.slots ≤ r'.slots ∧ r.locals ≤ r'.locals
theorem Met_room {l : Launch} {y : MethodName} {ws : List Cond} {rm rm' : Room} {Pc : Array Value → State → Prop} {Qc : Array Value → State → Outcome → State → Prop} {mc ms : Nat} {free : Addr → Prop} (h : Met l y ws rm Pc Qc mc ms free) (hr : rLe rm rm') : Met l y ws rm' Pc Qc mc ms free := by
  intro p e ha hc hk s m args below hf happ hP hK
  refine h p e ha hc hk s m args below hf ?_ hP hK
  rw [Spec.appliesLoose_iff hf] at happ ⊢
  obtain ⟨a1, a2, a3, a4, a5, a6, a7, a8⟩ := happ
  exact ⟨a1, a2, a3, a4, a5, a6, hasRoom_mono a7 hr.1 hr.2.1 hr.2.2.1 hr.2.2.2, a8⟩
theorem vxMet_room {l : Launch} {y : MethodName} {ws : List Cond} {rm rm' : Room} {Pc : Array Value → State → Prop} {Qc : Array Value → State → Outcome → State → Prop} {XC : String → State → State → Prop} {mc ms : Nat} {free : Addr → Prop} (h : vx_Met l y ws rm Pc Qc XC mc ms free) (hr : rLe rm rm') : vx_Met l y ws rm' Pc Qc XC mc ms free := by
  intro p e ha hc hk s m args below hf happ hP hK
  refine h p e ha hc hk s m args below hf ?_ hP hK
  rw [Spec.appliesLoose_iff hf] at happ ⊢
  obtain ⟨a1, a2, a3, a4, a5, a6, a7, a8⟩ := happ
  exact ⟨a1, a2, a3, a4, a5, a6, hasRoom_mono a7 hr.1 hr.2.1 hr.2.2.1 hr.2.2.2, a8⟩
section Cv2
variable {l : Launch} {y : MethodName} {ws : List Cond} {rm rm' : Room} {av : List Value} {D : va_G} {B : va_W} {tys : List (ClassId × FieldType)}
theorem GMi.conv {Q Q' : Int32 → va_W → Prop} (h : GMi l y ws rm av D B tys Q) (hr : rLe rm rm') (hq : ∀ r w, Q r w → Q' r w) : GMi l y ws rm' av D B tys Q' := fun sz =>
  Met_room (Met_conv2 (h sz) (fun _ _ z => z) (fun _ _ _ _ _ _ z => by
    obtain ⟨⟨r, u, e1, hu, h1⟩, hF⟩ := z
    exact ⟨⟨r, u, e1, hq _ _ hu, h1⟩, hF⟩) (fun _ z => z)) hr
theorem GMl.conv {Q Q' : Int64 → va_W → Prop} (h : GMl l y ws rm av D B tys Q) (hr : rLe rm rm') (hq : ∀ r w, Q r w → Q' r w) : GMl l y ws rm' av D B tys Q' := fun sz =>
  Met_room (Met_conv2 (h sz) (fun _ _ z => z) (fun _ _ _ _ _ _ z => by
    obtain ⟨⟨r, u, e1, hu, h1⟩, hF⟩ := z
    exact ⟨⟨r, u, e1, hq _ _ hu, h1⟩, hF⟩) (fun _ z => z)) hr
theorem GMv.conv {Q Q' : va_W → Prop} (h : GMv l y ws rm av D B tys Q) (hr : rLe rm rm') (hq : ∀ w, Q w → Q' w) : GMv l y ws rm' av D B tys Q' := fun sz =>
  Met_room (Met_conv2 (h sz) (fun _ _ z => z) (fun _ _ _ _ _ _ z => by
    obtain ⟨⟨u, e1, hu, h1⟩, hF⟩ := z
    exact ⟨⟨u, e1, hq _ hu, h1⟩, hF⟩) (fun _ z => z)) hr
end Cv2
def rmM : Room := { frames := 4, cells := 0, slots := 0, locals := 120 }
theorem sub5 {cJ cI cZ cH cB cT : ClassId} : ∀ q ∈ [(cJ, FieldType.long), (cI, .int), (cZ, .boolean)], q ∈ tysL cJ cI cZ cH cB cT := by
  intro q hq
  unfold tysL
  simp only [List.mem_cons, List.not_mem_nil, or_false] at hq ⊢
  rcases hq with h | h | h
  · exact Or.inl h
  · exact Or.inr (Or.inl h)
  · exact Or.inr (Or.inr (Or.inl h))
