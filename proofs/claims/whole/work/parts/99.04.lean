/-! the law's helpers: calls that may throw, and what catches -/
def ncS (U : State) : Prop := va_Nc "java/lang/IllegalStateException" "java/lang/IndexOutOfBoundsException" U ∧ va_Nc "java/lang/IllegalArgumentException" "java/lang/IndexOutOfBoundsException" U ∧ va_Nc "java/lang/IllegalArgumentException" "java/lang/IllegalStateException" U
theorem ncS.moved {u U : State} (hvm : u.vm.Alike U.vm) (h : ncS u) : ncS U := ⟨h.1.moved hvm, h.2.1.moved hvm, h.2.2.moved hvm⟩
def kHB (D : va_G) (W : va_W) (tys : List (ClassId × FieldType)) (sz : Nat) (U : State) : Prop := kTB D W tys sz U ∧ ncS U
theorem kHB.blind {av : List Value} {D : va_G} {W : va_W} {tys : List (ClassId × FieldType)} {sz : Nat} : FrameBlind (va_Pc av (kHB D W tys sz)) :=
  fun a U g mk q => ⟨q.1, (kTB.blind (av := av) (D := D) (W := W) (tys := tys) (sz := sz) a U g mk ⟨q.1, q.2.1⟩).2, ncS.moved (u := U) (U := U.calling g mk a) (Vm.Alike.refl U.vm) q.2.2⟩
def GHi (l : Launch) (y : MethodName) (ws : List Cond) (rm : Room) (av : List Value) (D : va_G) (B : va_W) (tys : List (ClassId × FieldType)) (Q : Int32 → va_W → Prop) : Prop :=
  ∀ sz : Nat, Met l y ws rm (va_Pc av (kHB D B tys sz)) (va_Qi Q (kEx D (fun w : va_W => w) tys (va_A B sz)) (va_A B sz)) 1 6 (va_A B sz)
theorem kOfH {l : Launch} {y : MethodName} {ws ws' : List Cond} {rm : Room} {av : List Value} {B : State → Prop} {Qc : Array Value → State → Outcome → State → Prop} {mc ms : Nat} {free : Addr → Prop} {cc : ByteArray} {maxL : Nat} {ret : Option FieldType} {hh : List (Nat × Nat × Nat × Nat)}
    (hy : plainName y.cls = true) (hw : ws = Cond.codeWith y cc maxL ret hh :: ws') (hn : (lg_sl av).length ≤ maxL)
    (body : ∀ (p : Program) (e : Env) (s : State) (m : MethodId) (below : List Frame) (meth : Method) (c : Code), p.tables.exec = Jvm.exec → c.code = cc → meth.sig.returnType = ret → c.maxLocals = maxL → (∀ w ∈ ws, w.before av.toArray s = true) → s.vm.findClass y.cls = some m.cls → meth.locks = false → c.exceptionTable.toList = tableOf hh → B s → ∀ ls : Array Slot, lv_has ls maxL (lv_args 0 av) → W p l e rm s m av.toArray below meth c s.heap [] 0 0 (MQ below Qc av.toArray s mc ms free) (F0 m 0 ls [])) :
    Met l y ws rm (va_Pc av B) Qc mc ms free := by
  refine Met_of_vx (vx_ofWH (cc := cc) (maxL := maxL) (ret := ret) (hh := hh) hy hw ?_)
  intro p e s m args below meth c s₁ B0 hml hv
  obtain ⟨rfl, hB⟩ := hv
  have hl := lv_entry av (n := maxL) hn
  have hts := atoms_spec (ws := ws) B0.pre
  rw [lg_entry_eq]
  exact vx_ret (body p e s m below meth c B0.exec B0.bytes B0.returns hml hts (findClass_of_methodNamed B0.named) B0.notSynchronized (vx_table (x := y) B0 (hts _ (by rw [hw]; exact List.mem_cons_self))) hB _ hl)
section GX
variable {p : Program} {l : Launch} {e : Env} {R : Room} {s : State} {m : MethodId} {args : Array Value} {below : List Frame} {meth : Method} {c : Code} {H : Heap} {locs : List Loc} {Q : State → Prop}
variable {cc : ByteArray} {pc nL n index ci q0 N maxL : Nat} {ls : Array Slot} {rest As st : List Value} {D : va_G} {B : va_W} {tys : List (ClassId × FieldType)} {A : Nat → Prop} {own C : String} {y : MethodName} {wsC Ts : List Cond} {rmC : Room} {bytes : ByteArray} {ret : Option FieldType} {b : Nat} {fs : List Value} {T : u_T} {E : String}
theorem gXi {Q' : va_W → Prop} (S0 : CallFix p m c cc nL s args Ts own) (hM : GTx l y wsC rmC (.ref b :: As) D B tys E Q' (fun A => va_Qi (fun _ (_ : Unit) => False) (fun _ _ => True) A)) (cw : CallW R s args own C index y bytes maxL ret wsC rmC 1 6 n) (hP : va_P D vwCl B H) (hD : va_D A B) (hA : ∀ q, s.heap.size ≤ q → A q) (hS : va_S A s.heap H locs) (hK : va_K D vwCl tys s) (hT : tS A s) (hc : vwCl[ci]? = some (C, T, N)) (he : B[q0]? = some (b, .inr (ci, fs))) (hn : As.length = n) (hst : st = As.reverse ++ .ref b :: rest) (hsz : ls.size = nL) (hW : (rest.map fun v => v.category).sum ≤ 8) (hd : decode cc pc = .ok (.invokevirtual index, 3)) (hf : 0 + 1 ≤ R.cells ∧ 0 + 6 ≤ R.slots)
    (hown : s.vm.findClass own = some m.cls) (pre : List ExceptionTableEntry) (x : ExceptionTableEntry) (suf : List ExceptionTableEntry) (hsplit : c.exceptionTable.toList = pre ++ x :: suf) (hpass : ∀ z ∈ pre, covers z pc = false ∨ (z.catchType ≠ 0 ∧ ∃ nm : String, (Cond.classLink own z.catchType nm).before args s = true ∧ va_Nc E nm s)) (hxc : covers x pc = true) (h0 : x.catchType ≠ 0) (hlink : (Cond.classLink own x.catchType E).before args s = true) (hcast : (Cond.castable E E).before args s = true)
    (kk : ∀ (B2 : va_W) (H1 : Heap) (locs1 : List Loc) (q9 : Addr), Q' B2 → va_P D vwCl B2 H1 → va_D A B2 → va_S A s.heap H1 locs1 → W p l e R s m args below meth c H1 locs1 1 6 Q (F0 m x.handlerPc ls [.ref q9])) : W p l e R s m args below meth c H locs 0 0 Q (F0 m pc ls st) := by
  subst hst
  have hFc := vaFree0 hD hS hA
  exact vx_calli (vx_runV (As := As) (rest := rest) S0 (hM H.size) cw ⟨kTB.blind, va_recv hK hP hc he, fun U hU hW => ⟨rfl, ⟨by rw [hU], by rw [hU]; exact hP, va_K.moved hW.alike hK, hD.weaken (fun _ _ _ _ => trivial)⟩, hT.call hS hU hW hFc⟩⟩ rfl hn hsz rfl (lv_room hW) hd hf) hS (fun q _ h => hFc q h) hFc (fun q _ h => hFc q h)
    (fun E' ce q9 u t H1 locs1 ht hvm hq hB hz1 hk1 hS1 hce hcv hcl => by
      obtain ⟨rfl, hP1, hK1, hD1⟩ := hB
      rw [ht] at hP1
      exact vx_catch hown pre x suf hsplit hpass hxc h0 hlink hcast hce hcv hcl (kk u H1 locs1 q9 hq hP1 (hD1.weaken (fun _ q _ hq => hFc _ hq)) hS1))
    (fun r u t H1 locs1 ht hvm hp _ _ _ _ => hp.elim)
theorem gXl {Q' : va_W → Prop} (S0 : CallFix p m c cc nL s args Ts own) (hM : GTx l y wsC rmC (.ref b :: As) D B tys E Q' (fun A => va_Ql (fun _ (_ : Unit) => False) (fun _ _ => True) A)) (cw : CallW R s args own C index y bytes maxL ret wsC rmC 1 6 n) (hP : va_P D vwCl B H) (hD : va_D A B) (hA : ∀ q, s.heap.size ≤ q → A q) (hS : va_S A s.heap H locs) (hK : va_K D vwCl tys s) (hT : tS A s) (hc : vwCl[ci]? = some (C, T, N)) (he : B[q0]? = some (b, .inr (ci, fs))) (hn : As.length = n) (hst : st = As.reverse ++ .ref b :: rest) (hsz : ls.size = nL) (hW : (rest.map fun v => v.category).sum ≤ 8) (hd : decode cc pc = .ok (.invokevirtual index, 3)) (hf : 0 + 1 ≤ R.cells ∧ 0 + 6 ≤ R.slots)
    (hown : s.vm.findClass own = some m.cls) (pre : List ExceptionTableEntry) (x : ExceptionTableEntry) (suf : List ExceptionTableEntry) (hsplit : c.exceptionTable.toList = pre ++ x :: suf) (hpass : ∀ z ∈ pre, covers z pc = false ∨ (z.catchType ≠ 0 ∧ ∃ nm : String, (Cond.classLink own z.catchType nm).before args s = true ∧ va_Nc E nm s)) (hxc : covers x pc = true) (h0 : x.catchType ≠ 0) (hlink : (Cond.classLink own x.catchType E).before args s = true) (hcast : (Cond.castable E E).before args s = true)
    (kk : ∀ (B2 : va_W) (H1 : Heap) (locs1 : List Loc) (q9 : Addr), Q' B2 → va_P D vwCl B2 H1 → va_D A B2 → va_S A s.heap H1 locs1 → W p l e R s m args below meth c H1 locs1 1 6 Q (F0 m x.handlerPc ls [.ref q9])) : W p l e R s m args below meth c H locs 0 0 Q (F0 m pc ls st) := by
  subst hst
  have hFc := vaFree0 hD hS hA
  exact vx_calll (vx_runV (As := As) (rest := rest) S0 (hM H.size) cw ⟨kTB.blind, va_recv hK hP hc he, fun U hU hW => ⟨rfl, ⟨by rw [hU], by rw [hU]; exact hP, va_K.moved hW.alike hK, hD.weaken (fun _ _ _ _ => trivial)⟩, hT.call hS hU hW hFc⟩⟩ rfl hn hsz rfl (lv_room hW) hd hf) hS (fun q _ h => hFc q h) hFc (fun q _ h => hFc q h)
    (fun E' ce q9 u t H1 locs1 ht hvm hq hB hz1 hk1 hS1 hce hcv hcl => by
      obtain ⟨rfl, hP1, hK1, hD1⟩ := hB
      rw [ht] at hP1
      exact vx_catch hown pre x suf hsplit hpass hxc h0 hlink hcast hce hcv hcl (kk u H1 locs1 q9 hq hP1 (hD1.weaken (fun _ q _ hq => hFc _ hq)) hS1))
    (fun r u t H1 locs1 ht hvm hp _ _ _ _ => hp.elim)
end GX
theorem GTx.conv {l : Launch} {y : MethodName} {ws : List Cond} {rm rm' : Room} {av : List Value} {D : va_G} {B : va_W} {tys : List (ClassId × FieldType)} {E : String} {Q Q' : va_W → Prop} {Qr : (Nat → Prop) → Array Value → State → Outcome → State → Prop} (h : GTx l y ws rm av D B tys E Q Qr) (hr : rLe rm rm') (hq : ∀ w, Q w → Q' w) : GTx l y ws rm' av D B tys E Q' Qr := fun sz =>
  vxMet_room (vxMet_conv (h sz) (fun _ _ z => z) (fun _ _ _ _ _ _ z => z) (fun _ _ _ _ _ _ z => by
    obtain ⟨u, hu, h1, hF⟩ := z
    exact ⟨u, hq _ hu, h1, hF⟩) (fun _ z => z)) hr
theorem cast_at {E : String} {args : Array Value} {s : State} (h : va_Nw (.castable E E) s) : (Cond.castable E E).before args s = true := va_tabs (by rfl) rfl h
def rmR : Room := { frames := 7, cells := 0, slots := 0, locals := 172 }
def rmT : Room := { frames := 8, cells := 1, slots := 6, locals := 134 }
def rmH : Room := { frames := 9, cells := 1, slots := 6, locals := 210 }
