/-! Own kit, fifth part: constructors (cells are made). -/
def NMv {S : Type} (l : Launch) (y : MethodName) (ws : List Cond) (rm : Room) (av : List Value) (D : va_G) (W : va_W) (W2 : S → va_W) (tys : List (ClassId × FieldType)) (mc ms : Nat) : Prop :=
  ∀ sz : Nat, Met l y ws rm (va_Pc av (kB D W tys sz)) (va_Qv (fun (_ : S) => True) (kEx D W2 tys (va_A W sz)) (va_A W sz)) mc ms (va_A W sz)
section KN
variable {p : Program} {l : Launch} {e : Env} {R : Room} {s : State} {m : MethodId} {args : Array Value} {below : List Frame} {meth : Method} {c : Code} {H : Heap} {locs : List Loc} {cells slots : Nat} {Q : State → Prop}
variable {cc : ByteArray} {pc nL n index ci q0 N maxL t0 mc ms : Nat} {ls : Array Slot} {rest As st : List Value} {D : va_G} {W0 WC WR : va_W} {S : Type} {W2 WN : S → va_W} {tys tyC : List (ClassId × FieldType)} {A : Nat → Prop} {H0 : Heap} {own C : String} {y : MethodName} {wsC Ts : List Cond} {rmC : Room} {bytes : ByteArray} {b : Nat} {fs : List Value} {T : u_T} {cA0 : ClassId}
theorem kNewa (hx : p.tables.exec = Jvm.exec) (hb : c.code = cc) {atype : ArrayType} (harr : (Cond.arrayClass (newarray.typeOf atype)).before args s = true) {ty : FieldType} (hty : newarray.typeOf atype = ty) (ht : tys[t0]? = some (cA0, ty)) (huniq : ∀ k : ClassId, va_RA s k ty → va_RA s cA0 ty → cA0 = k) (hK : va_K D vwCl tys s) (hP : va_P D vwCl W0 H) (hD : va_D A W0) (hS : va_S A H0 H locs) (hA : ∀ q, H0.size ≤ q → A q)
    {nn : Int32} {N' : Nat} {a0 : vp_A} (ha : ∀ cA : ClassId, vp_cell cA a0 = arrV cA N' (fun _ => defaultValue ty)) (hn : ¬ nn < 0) (hN : nn.toNatClampNeg = N') (hbytes : N' * componentBytes ty ≤ 536870912) (hcells : cells + 1 ≤ R.cells) (hslots : slots + N' ≤ R.slots) (hdg : decode cc pc = .ok (.newarray atype, 2))
    (kk : ∀ (q : Nat) (H1 : Heap), va_P D vwCl (W0 ++ [(q, .inl (cA0, a0))]) H1 → va_D A (W0 ++ [(q, .inl (cA0, a0))]) → va_S A H0 H1 locs → W p l e R s m args below meth c H1 locs (cells + 1) (slots + N') Q (F0 m (pc + 2) ls (.ref q :: rest))) : W p l e R s m args below meth c H locs cells slots Q (F0 m pc ls (.int nn :: rest)) :=
  va_newa hx hb harr hty hK hP hD hS hA ha hn hN hbytes hcells hslots hdg (fun q cA H1 hK1 hP1 hD1 hS1 => by
    have e9 : cA0 = cA := huniq cA (hK1.2 tys.length (cA, ty) (by simp)).2 (hK.2 t0 _ ht).2
    subst e9
    exact kk q H1 hP1 hD1 hS1)
theorem kNewq (hx : p.tables.exec = Jvm.exec) (hb : c.code = cc) (hown : s.vm.findClass own = some m.cls) (hclink : (Cond.classLink own index C).before args s = true) (hover : va_AO C s) (ht : tys[t0]? = some (cA0, .object C)) (hK : va_K D vwCl tys s) (hP : va_P D vwCl W0 H) (hD : va_D A W0) (hS : va_S A H0 H locs) (hA : ∀ q, H0.size ≤ q → A q)
    {nn : Int32} {N' : Nat} (hn : ¬ nn < 0) (hN : nn.toNatClampNeg = N') (hbytes : N' * 4 ≤ 536870912) (hcells : cells + 1 ≤ R.cells) (hslots : slots + N' ≤ R.slots) (hdg : decode cc pc = .ok (.anewarray index, 3))
    (kk : ∀ (q : Nat) (H1 : Heap), va_P D vwCl (W0 ++ [(q, .inl (cA0, N', .inr (.inr (.inr (.inr (fun _ => none))))))]) H1 → va_D A (W0 ++ [(q, .inl (cA0, N', .inr (.inr (.inr (.inr (fun _ => none))))))]) → va_S A H0 H1 locs → W p l e R s m args below meth c H1 locs (cells + 1) (slots + N') Q (F0 m (pc + 3) ls (.ref q :: rest))) : W p l e R s m args below meth c H locs cells slots Q (F0 m pc ls (.int nn :: rest)) :=
  va_newq hx hb hown hclink hover hK hP hD hS hA hn hN hbytes hcells hslots hdg (fun q cA H1 hK1 hP1 hD1 hS1 => by
    have e9 : cA0 = cA := by
      obtain ⟨_, _, _, _, _, h1⟩ := (hK1.2 tys.length (cA, .object C) (by simp)).2
      obtain ⟨_, _, _, _, _, h2⟩ := (hK.2 t0 _ ht).2
      exact Option.some.inj (h2.symm.trans h1)
    subst e9
    exact kk q H1 hP1 hD1 hS1)
theorem kNv {u : S} (hx : p.tables.exec = Jvm.exec) (hb : c.code = cc) (hr : meth.sig.returnType = none) (hlocks : meth.locks = false) (hP : va_P D vwCl (W2 u) H) (hK : va_K D vwCl tys s) (hD : va_D A (W2 u)) (hS : va_S A s.heap H locs) (hd : decode cc pc = .ok (.return_, 1)) :
    W p l e R s m args below meth c H locs cells slots (MQ below (va_Qv (fun (_ : S) => True) (kEx D W2 tys A) A) args s cells slots A) (F0 m pc ls []) :=
  W.vret hx hb hr (fun t ht hW => ⟨⟨u, rfl, trivial, by rw [ht]; exact hP, va_K.moved hW.alike hK, hD⟩, hS.F ht⟩) hS.2.2 hd hlocks
/-- a constructor is called -/
theorem knI {isC isR isN its : List Nat} (S0 : CallFix p m c cc nL s args Ts own) (hM : NMv l y wsC rmC (.ref b :: As) D WC W2 tyC mc ms) (cw : CallB R s args own index y bytes maxL none wsC rmC mc ms n ∧ y.name = "<init>" ∧ (Cond.instanceMethod y).before args s = true) (hP : va_P D vwCl W0 H) (hD : va_D A W0) (hA : ∀ q, H0.size ≤ q → A q) (hS : va_S A H0 H locs) (hK : va_K D vwCl tys s) (hC : isC.map (fun i => W0[i]?) = WC.map some) (hnC : va_nd isC = true) (hR : isR.map (fun i => W0[i]?) = WR.map some) (hnR : va_nd isR = true) (hdis : ∀ i ∈ isR, i ∉ isC) (hN : ∀ u : S, isN.map (fun i => (WR ++ W2 u)[i]?) = (WN u).map some) (hnN : va_nd isN = true) (hty : its.filterMap (fun i => tys[i]?) = tyC) (hn : As.length = n) (hst : st = As.reverse ++ .ref b :: rest) (hsz : ls.size = nL) (hW : (rest.map fun v => v.category).sum ≤ 8) (hd : decode cc pc = .ok (.invokespecial index, 3)) (hf : cells + mc ≤ R.cells ∧ slots + ms ≤ R.slots)
    (kk : ∀ (u : S) (H1 : Heap) (locs1 : List Loc), va_P D vwCl (WN u) H1 → va_D A (WN u) → va_S A H0 H1 locs1 → W p l e R s m args below meth c H1 locs1 (cells + mc) (slots + ms) Q (F0 m (pc + 3) ls rest)) : W p l e R s m args below meth c H locs cells slots Q (F0 m pc ls st) := by
  subst hst
  have hPc : va_P D vwCl WC H := kPick hP hC
  have hDc : va_D A WC := hD.sub isC hnC hC
  have hKc : va_K D vwCl tyC s := hK.sub its hty
  have hFc := va_free hD hS hA isC hC
  exact va_callv (va_runI (As := As) (rest := rest) S0 (hM H.size) cw ⟨kB.blind, fun U hU hW => ⟨rfl, by rw [hU], by rw [hU]; exact hPc, va_K.moved hW.alike hKc, hDc.weaken (fun _ _ _ _ => trivial)⟩⟩ rfl hn hsz rfl (lv_room hW) hd hf) hS (fun q _ h => hFc q h) hFc (fun u t H1 locs1 ht hvm hw hB hz1 hk1 hS1 => by
    obtain ⟨hP1, hK1, hD1⟩ := hB
    rw [ht] at hP1
    obtain ⟨a1, a2⟩ := kBack hP hD hA hS hC hR hnR hdis (hN u) hnN hk1 hP1 hD1
    exact kk u H1 locs1 a1 a2 hS1)
end KN
theorem kOfN {l : Launch} {y : MethodName} {ws ws' : List Cond} {rm : Room} {av : List Value} {B : State → Prop} {Qc : Array Value → State → Outcome → State → Prop} {mc ms : Nat} {free : Addr → Prop} {cc : ByteArray} {maxL : Nat} {ret : Option FieldType}
    (hy : plainName y.cls = true) (hw : ws = Cond.code y cc maxL ret :: ws') (hn : (lg_sl av).length ≤ maxL)
    (body : ∀ (p : Program) (e : Env) (s : State) (m : MethodId) (below : List Frame) (meth : Method) (c : Code), p.tables.exec = Jvm.exec → c.code = cc → meth.sig.returnType = ret → c.maxLocals = maxL → (∀ w ∈ ws, w.before av.toArray s = true) → s.vm.findClass y.cls = some m.cls → meth.locks = false → meth.name = y.name → B s → ∀ ls : Array Slot, lv_has ls maxL (lv_args 0 av) → W p l e rm s m av.toArray below meth c s.heap [] 0 0 (MQ below Qc av.toArray s mc ms free) (F0 m 0 ls [])) :
    Met l y ws rm (va_Pc av B) Qc mc ms free := by
  refine Met.ofW (cc := cc) (maxL := maxL) (ret := ret) hy hw ?_
  intro p e s m args below meth c s₁ B0 hml hv
  obtain ⟨rfl, hB⟩ := hv
  have hl := lv_entry av (n := maxL) hn
  rw [lg_entry_eq]
  exact body p e s m below meth c B0.exec B0.bytes B0.returns hml (atoms_spec (ws := ws) B0.pre) (findClass_of_methodNamed B0.named) B0.notSynchronized (name_of_methodNamed B0.named B0.method).1 hB _ hl
