/-! Own kit: contracts of one form (P: reads alone, the heap stays; M: the world changes), their starts, ends, calls, and a loop. -/
def bI (b : Bool) : Int32 := if b then 1 else 0
theorem bI_nar (b : Bool) : narrow .boolean (.int (bI b)) = .int (bI b) := by cases b <;> rfl
theorem bI_t : bI true = 1 := rfl
theorem bI_f : bI false = 0 := rfl
theorem bI_fits (b : Bool) : fits .boolean (.int (bI b)) = true := by cases b <;> rfl
def kQ (D : va_G) (W : va_W) (tys : List (ClassId × FieldType)) (U : State) : Prop := va_P D vwCl W U.heap ∧ va_K D vwCl tys U
def kB (D : va_G) (W : va_W) (tys : List (ClassId × FieldType)) (sz : Nat) (U : State) : Prop := U.heap.size = sz ∧ va_P D vwCl W U.heap ∧ va_K D vwCl tys U ∧ va_D (fun _ => True) W
def kE (D : va_G) (W : va_W) (tys : List (ClassId × FieldType)) (A : Nat → Prop) (_ : Unit) (t : State) : Prop := va_P D vwCl W t.heap ∧ va_K D vwCl tys t ∧ va_D A W
theorem kQ.blind {av : List Value} {D : va_G} {W : va_W} {tys : List (ClassId × FieldType)} : FrameBlind (va_Pc av (kQ D W tys)) :=
  fun a U g mk q => ⟨q.1, q.2.1, va_K.moved (u := U) (U := U.calling g mk a) (Vm.Alike.refl U.vm) q.2.2⟩
theorem kB.blind {av : List Value} {D : va_G} {W : va_W} {tys : List (ClassId × FieldType)} {sz : Nat} : FrameBlind (va_Pc av (kB D W tys sz)) :=
  fun a U g mk q => ⟨q.1, q.2.1, q.2.2.1, va_K.moved (u := U) (U := U.calling g mk a) (Vm.Alike.refl U.vm) q.2.2.2.1, q.2.2.2.2⟩
/-- a method that reads alone, and answers r -/
def PMi (l : Launch) (y : MethodName) (ws : List Cond) (rm : Room) (av : List Value) (D : va_G) (W : va_W) (tys : List (ClassId × FieldType)) (r : Int32) : Prop :=
  Met l y ws rm (va_Pc av (kQ D W tys)) (vp_Si (fun x => x = r)) 0 0 (fun _ => False)
def PMl (l : Launch) (y : MethodName) (ws : List Cond) (rm : Room) (av : List Value) (D : va_G) (W : va_W) (tys : List (ClassId × FieldType)) (r : Int64) : Prop :=
  Met l y ws rm (va_Pc av (kQ D W tys)) (vp_Sl (fun x => x = r)) 0 0 (fun _ => False)
/-- a method that makes the world W to W2 (nothing new is made), and answers r -/
def MMi (l : Launch) (y : MethodName) (ws : List Cond) (rm : Room) (av : List Value) (D : va_G) (W W2 : va_W) (tys : List (ClassId × FieldType)) (r : Int32) : Prop :=
  ∀ sz : Nat, Met l y ws rm (va_Pc av (kB D W tys sz)) (va_Qi (fun x (_ : Unit) => x = r) (kE D W2 tys (va_A W sz)) (va_A W sz)) 0 0 (va_A W sz)
def MMl (l : Launch) (y : MethodName) (ws : List Cond) (rm : Room) (av : List Value) (D : va_G) (W W2 : va_W) (tys : List (ClassId × FieldType)) (r : Int64) : Prop :=
  ∀ sz : Nat, Met l y ws rm (va_Pc av (kB D W tys sz)) (va_Ql (fun x (_ : Unit) => x = r) (kE D W2 tys (va_A W sz)) (va_A W sz)) 0 0 (va_A W sz)
def MMv (l : Launch) (y : MethodName) (ws : List Cond) (rm : Room) (av : List Value) (D : va_G) (W W2 : va_W) (tys : List (ClassId × FieldType)) : Prop :=
  ∀ sz : Nat, Met l y ws rm (va_Pc av (kB D W tys sz)) (va_Qv (fun (_ : Unit) => True) (kE D W2 tys (va_A W sz)) (va_A W sz)) 0 0 (va_A W sz)
theorem kOf {l : Launch} {y : MethodName} {ws ws' : List Cond} {rm : Room} {av : List Value} {B : State → Prop} {Qc : Array Value → State → Outcome → State → Prop} {mc ms : Nat} {free : Addr → Prop} {cc : ByteArray} {maxL : Nat} {ret : Option FieldType}
    (hy : plainName y.cls = true) (hw : ws = Cond.code y cc maxL ret :: ws') (hn : (lg_sl av).length ≤ maxL)
    (body : ∀ (p : Program) (e : Env) (s : State) (m : MethodId) (below : List Frame) (meth : Method) (c : Code), p.tables.exec = Jvm.exec → c.code = cc → meth.sig.returnType = ret → c.maxLocals = maxL → (∀ w ∈ ws, w.before av.toArray s = true) → s.vm.findClass y.cls = some m.cls → meth.locks = false → B s → ∀ ls : Array Slot, lv_has ls maxL (lv_args 0 av) → W p l e rm s m av.toArray below meth c s.heap [] 0 0 (MQ below Qc av.toArray s mc ms free) (F0 m 0 ls [])) :
    Met l y ws rm (va_Pc av B) Qc mc ms free := by
  refine Met.ofW (cc := cc) (maxL := maxL) (ret := ret) hy hw ?_
  intro p e s m args below meth c s₁ B0 hml hv
  obtain ⟨rfl, hB⟩ := hv
  have hl := lv_entry av (n := maxL) hn
  rw [lg_entry_eq]
  exact body p e s m below meth c B0.exec B0.bytes B0.returns hml (atoms_spec (ws := ws) B0.pre) (findClass_of_methodNamed B0.named) B0.notSynchronized hB _ hl
section KEnds
variable {p : Program} {l : Launch} {e : Env} {R : Room} {s : State} {m : MethodId} {args : Array Value} {below : List Frame} {meth : Method} {c : Code} {H : Heap} {locs : List Loc} {cells slots : Nat} {Q : State → Prop}
variable {cc : ByteArray} {pc : Nat} {ls : Array Slot} {rest : List Value} {D : va_G} {W2 : va_W} {tys : List (ClassId × FieldType)} {A : Nat → Prop}
theorem kRi (hx : p.tables.exec = Jvm.exec) (hb : c.code = cc) (hr : meth.sig.returnType = some .int) (hlocks : meth.locks = false) {v r : Int32} (hd : decode cc pc = .ok (.ireturn, 1)) (h : v = r) :
    W p l e R s m args below meth c s.heap [] cells slots (MQ below (vp_Si (fun x => x = r)) args s cells slots (fun _ => False)) (F0 m pc ls [.int v]) :=
  W.iret hx hb hr (fun t ht _ => ⟨v, rfl, h, ht⟩) (fun q hq => by cases hq) hd hlocks
theorem kRz (hx : p.tables.exec = Jvm.exec) (hb : c.code = cc) (hr : meth.sig.returnType = some .boolean) (hlocks : meth.locks = false) {v : Int32} {b : Bool} (hd : decode cc pc = .ok (.ireturn, 1)) (h : v = bI b) :
    W p l e R s m args below meth c s.heap [] cells slots (MQ below (vp_Si (fun x => x = bI b)) args s cells slots (fun _ => False)) (F0 m pc ls [.int v]) :=
  W.zret hx hb hr (by rw [h]; exact bI_nar b) (fun t ht _ => ⟨v, rfl, h, ht⟩) (fun q hq => by cases hq) hd hlocks
theorem kRl (hx : p.tables.exec = Jvm.exec) (hb : c.code = cc) (hr : meth.sig.returnType = some .long) (hlocks : meth.locks = false) {v r : Int64} (hd : decode cc pc = .ok (.lreturn, 1)) (h : v = r) :
    W p l e R s m args below meth c s.heap [] cells slots (MQ below (vp_Sl (fun x => x = r)) args s cells slots (fun _ => False)) (F0 m pc ls [.long v]) :=
  W.lret hx hb hr (fun t ht _ => ⟨v, rfl, h, ht⟩) (fun q hq => by cases hq) hd hlocks
theorem kEi (hx : p.tables.exec = Jvm.exec) (hb : c.code = cc) (hr : meth.sig.returnType = some .int) (hlocks : meth.locks = false) (hP : va_P D vwCl W2 H) (hK : va_K D vwCl tys s) (hD : va_D A W2) (hS : va_S A s.heap H locs) {v r : Int32} (hd : decode cc pc = .ok (.ireturn, 1)) (h : v = r) :
    W p l e R s m args below meth c H locs cells slots (MQ below (va_Qi (fun x (_ : Unit) => x = r) (kE D W2 tys A) A) args s cells slots A) (F0 m pc ls [.int v]) :=
  W.iret hx hb hr (fun t ht hW => ⟨⟨v, (), rfl, h, by rw [ht]; exact hP, va_K.moved hW.alike hK, hD⟩, hS.F ht⟩) hS.2.2 hd hlocks
theorem kEz (hx : p.tables.exec = Jvm.exec) (hb : c.code = cc) (hr : meth.sig.returnType = some .boolean) (hlocks : meth.locks = false) (hP : va_P D vwCl W2 H) (hK : va_K D vwCl tys s) (hD : va_D A W2) (hS : va_S A s.heap H locs) {v : Int32} {b : Bool} (hd : decode cc pc = .ok (.ireturn, 1)) (h : v = bI b) :
    W p l e R s m args below meth c H locs cells slots (MQ below (va_Qi (fun x (_ : Unit) => x = bI b) (kE D W2 tys A) A) args s cells slots A) (F0 m pc ls [.int v]) :=
  W.zret hx hb hr (by rw [h]; exact bI_nar b) (fun t ht hW => ⟨⟨v, (), rfl, h, by rw [ht]; exact hP, va_K.moved hW.alike hK, hD⟩, hS.F ht⟩) hS.2.2 hd hlocks
theorem kEl (hx : p.tables.exec = Jvm.exec) (hb : c.code = cc) (hr : meth.sig.returnType = some .long) (hlocks : meth.locks = false) (hP : va_P D vwCl W2 H) (hK : va_K D vwCl tys s) (hD : va_D A W2) (hS : va_S A s.heap H locs) {v r : Int64} (hd : decode cc pc = .ok (.lreturn, 1)) (h : v = r) :
    W p l e R s m args below meth c H locs cells slots (MQ below (va_Ql (fun x (_ : Unit) => x = r) (kE D W2 tys A) A) args s cells slots A) (F0 m pc ls [.long v]) :=
  W.lret hx hb hr (fun t ht hW => ⟨⟨v, (), rfl, h, by rw [ht]; exact hP, va_K.moved hW.alike hK, hD⟩, hS.F ht⟩) hS.2.2 hd hlocks
theorem kEv (hx : p.tables.exec = Jvm.exec) (hb : c.code = cc) (hr : meth.sig.returnType = none) (hlocks : meth.locks = false) (hP : va_P D vwCl W2 H) (hK : va_K D vwCl tys s) (hD : va_D A W2) (hS : va_S A s.heap H locs) (hd : decode cc pc = .ok (.return_, 1)) :
    W p l e R s m args below meth c H locs cells slots (MQ below (va_Qv (fun (_ : Unit) => True) (kE D W2 tys A) A) args s cells slots A) (F0 m pc ls []) :=
  W.vret hx hb hr (fun t ht hW => ⟨⟨(), rfl, trivial, by rw [ht]; exact hP, va_K.moved hW.alike hK, hD⟩, hS.F ht⟩) hS.2.2 hd hlocks
/-- a loop: an invariant over the heap, what was written and the locals; a measure that falls -/
theorem kLoop {σ : Type} (I : σ → Heap → List Loc → Array Slot → Prop) (μ : σ → Nat)
    (body : ∀ (x : σ) (H : Heap) (locs : List Loc) (ls : Array Slot), I x H locs ls → (∀ (x' : σ) (H' : Heap) (locs' : List Loc) (ls' : Array Slot), I x' H' locs' ls' → μ x' < μ x → W p l e R s m args below meth c H' locs' cells slots Q (F0 m pc ls' rest)) → W p l e R s m args below meth c H locs cells slots Q (F0 m pc ls rest))
    (x : σ) (h : I x H locs ls) : W p l e R s m args below meth c H locs cells slots Q (F0 m pc ls rest) := by
  have key : ∀ (n : Nat) (x : σ) (H : Heap) (locs : List Loc) (ls : Array Slot), I x H locs ls → μ x < n → W p l e R s m args below meth c H locs cells slots Q (F0 m pc ls rest) := by
    intro n
    induction n with
    | zero => intro x H locs ls _ h; exact absurd h (Nat.not_lt_zero _)
    | succ n ih => intro x H locs ls hI h; exact body x H locs ls hI (fun x' H' locs' ls' hI' h' => ih x' H' locs' ls' hI' (by omega))
  exact key (μ x + 1) x H locs ls h (Nat.lt_succ_self _)
/-- a branch that both ways come to one place with another value on top: the value is named there -/
theorem kJoinL {pcj : Nat} {stj : List Value} {st : List Value} (P : Int64 → Prop) (k : ∀ v : Int64, P v → W p l e R s m args below meth c H locs cells slots Q (F0 m pcj ls (.long v :: stj)))
    (br : (∀ v : Int64, P v → W p l e R s m args below meth c H locs cells slots Q (F0 m pcj ls (.long v :: stj))) → W p l e R s m args below meth c H locs cells slots Q (F0 m pc ls st)) : W p l e R s m args below meth c H locs cells slots Q (F0 m pc ls st) := br k
theorem kJoinI {pcj : Nat} {stj : List Value} {st : List Value} (P : Int32 → Prop) (k : ∀ v : Int32, P v → W p l e R s m args below meth c H locs cells slots Q (F0 m pcj ls (.int v :: stj)))
    (br : (∀ v : Int32, P v → W p l e R s m args below meth c H locs cells slots Q (F0 m pcj ls (.int v :: stj))) → W p l e R s m args below meth c H locs cells slots Q (F0 m pc ls st)) : W p l e R s m args below meth c H locs cells slots Q (F0 m pc ls st) := br k
end KEnds
section KCalls
variable {p : Program} {l : Launch} {e : Env} {R : Room} {s : State} {m : MethodId} {args : Array Value} {below : List Frame} {meth : Method} {c : Code} {H : Heap} {locs : List Loc} {cells slots : Nat} {Q : State → Prop}
variable {cc : ByteArray} {pc nL n index ci q0 N maxL : Nat} {ls : Array Slot} {rest As st : List Value} {D : va_G} {W0 WC W2 WR WN : va_W} {tys tyC : List (ClassId × FieldType)} {A : Nat → Prop} {H0 : Heap} {own C : String} {y : MethodName} {wsC Ts : List Cond} {rmC : Room} {bytes : ByteArray} {ret : Option FieldType} {b : Nat} {fs : List Value} {T : u_T}
theorem kpVi {r : Int32} (S : CallFix p m c cc nL s args Ts own) (hM : PMi l y wsC rmC (.ref b :: As) D WC tyC r) (cw : CallW R s args own C index y bytes maxL ret wsC rmC 0 0 n) (hP : va_P D vwCl WC H) (hK : va_K D vwCl tyC s) (hc : vwCl[ci]? = some (C, T, N)) (he : WC[q0]? = some (b, .inr (ci, fs))) (hn : As.length = n) (hst : st = As.reverse ++ .ref b :: rest) (hsz : ls.size = nL) (hW : (rest.map fun v => v.category).sum ≤ 8) (hd : decode cc pc = .ok (.invokevirtual index, 3)) (hf : cells + 0 ≤ R.cells ∧ slots + 0 ≤ R.slots)
    (kk : W p l e R s m args below meth c H locs cells slots Q (F0 m (pc + 3) ls (.int r :: rest))) : W p l e R s m args below meth c H locs cells slots Q (F0 m pc ls st) := by
  subst hst
  exact vp_callSi (va_Run.run (va_runV (As := As) (rest := rest) S hM cw ⟨kQ.blind, va_recv hK hP hc he, fun U hU hW => ⟨rfl, by rw [hU]; exact hP, va_K.moved hW.alike hK⟩⟩ rfl hn hsz rfl (lv_room hW) hd hf)) (fun x hx => by subst hx; exact kk)
theorem kpVl {r : Int64} (S : CallFix p m c cc nL s args Ts own) (hM : PMl l y wsC rmC (.ref b :: As) D WC tyC r) (cw : CallW R s args own C index y bytes maxL ret wsC rmC 0 0 n) (hP : va_P D vwCl WC H) (hK : va_K D vwCl tyC s) (hc : vwCl[ci]? = some (C, T, N)) (he : WC[q0]? = some (b, .inr (ci, fs))) (hn : As.length = n) (hst : st = As.reverse ++ .ref b :: rest) (hsz : ls.size = nL) (hW : (rest.map fun v => v.category).sum ≤ 8) (hd : decode cc pc = .ok (.invokevirtual index, 3)) (hf : cells + 0 ≤ R.cells ∧ slots + 0 ≤ R.slots)
    (kk : W p l e R s m args below meth c H locs cells slots Q (F0 m (pc + 3) ls (.long r :: rest))) : W p l e R s m args below meth c H locs cells slots Q (F0 m pc ls st) := by
  subst hst
  exact vp_callSl (va_Run.run (va_runV (As := As) (rest := rest) S hM cw ⟨kQ.blind, va_recv hK hP hc he, fun U hU hW => ⟨rfl, by rw [hU]; exact hP, va_K.moved hW.alike hK⟩⟩ rfl hn hsz rfl (lv_room hW) hd hf)) (fun x hx => by subst hx; exact kk)
theorem kpSi {r : Int32} (S : CallFix p m c cc nL s args Ts own) (hM : PMi l y wsC rmC As D WC tyC r) (cw : CallB R s args own index y bytes maxL ret wsC rmC 0 0 n ∧ (Cond.static y).before args s = true) (hP : va_P D vwCl WC H) (hK : va_K D vwCl tyC s) (hn : As.length = n) (hst : st = As.reverse ++ rest) (hsz : ls.size = nL) (hW : (rest.map fun v => v.category).sum ≤ 8) (hd : decode cc pc = .ok (.invokestatic index, 3)) (hf : cells + 0 ≤ R.cells ∧ slots + 0 ≤ R.slots)
    (kk : W p l e R s m args below meth c H locs cells slots Q (F0 m (pc + 3) ls (.int r :: rest))) : W p l e R s m args below meth c H locs cells slots Q (F0 m pc ls st) := by
  subst hst
  exact vp_callSi (va_Run.run (va_runS (As := As) (rest := rest) S hM cw ⟨kQ.blind, fun U hU hW => ⟨rfl, by rw [hU]; exact hP, va_K.moved hW.alike hK⟩⟩ rfl hn hsz rfl (lv_room hW) hd hf)) (fun x hx => by subst hx; exact kk)
theorem kpSl {r : Int64} (S : CallFix p m c cc nL s args Ts own) (hM : PMl l y wsC rmC As D WC tyC r) (cw : CallB R s args own index y bytes maxL ret wsC rmC 0 0 n ∧ (Cond.static y).before args s = true) (hP : va_P D vwCl WC H) (hK : va_K D vwCl tyC s) (hn : As.length = n) (hst : st = As.reverse ++ rest) (hsz : ls.size = nL) (hW : (rest.map fun v => v.category).sum ≤ 8) (hd : decode cc pc = .ok (.invokestatic index, 3)) (hf : cells + 0 ≤ R.cells ∧ slots + 0 ≤ R.slots)
    (kk : W p l e R s m args below meth c H locs cells slots Q (F0 m (pc + 3) ls (.long r :: rest))) : W p l e R s m args below meth c H locs cells slots Q (F0 m pc ls st) := by
  subst hst
  exact vp_callSl (va_Run.run (va_runS (As := As) (rest := rest) S hM cw ⟨kQ.blind, fun U hU hW => ⟨rfl, by rw [hU]; exact hP, va_K.moved hW.alike hK⟩⟩ rfl hn hsz rfl (lv_room hW) hd hf)) (fun x hx => by subst hx; exact kk)
/-- behind a call that changes cells: the callee's cells WC (places isC of W0) became W2, the rest WR (places isR) stayed; WN is all, in a chosen order (places isN of WR ++ W2) -/
theorem kBack {H1 : Heap} {isC isR isN : List Nat} (hP : va_P D vwCl W0 H) (hD : va_D A W0) (hA : ∀ q, H0.size ≤ q → A q) (hS : va_S A H0 H locs) (hC : isC.map (fun i => W0[i]?) = WC.map some) (hR : isR.map (fun i => W0[i]?) = WR.map some) (hn : va_nd isR = true) (hdis : ∀ i ∈ isR, i ∉ isC) (hN : isN.map (fun i => (WR ++ W2)[i]?) = WN.map some) (hnN : va_nd isN = true)
    (hk : ∀ q : Nat, q < H.size → ¬ va_A WC H.size q → H1[q]? = H[q]?) (hP1 : va_P D vwCl W2 H1) (hD1 : va_D (va_A WC H.size) W2) : va_P D vwCl WN H1 ∧ va_D A WN := by
  obtain ⟨h1, h2⟩ := va_join hP hD isC isR hC hR hn hdis hk (va_free hD hS hA isC hC) hP1 hD1
  refine ⟨fun k q hk => ?_, h2.sub isN hnN hN⟩
  have h3 : (isN.map (fun i => (WR ++ W2)[i]?))[k]? = some (some q) := by rw [hN, List.getElem?_map, hk]; rfl
  rw [List.getElem?_map] at h3
  cases hi : isN[k]? with
  | none => rw [hi] at h3; cases h3
  | some i => rw [hi] at h3; exact h1 i q (Option.some.inj h3)
theorem kPick {isC : List Nat} (hP : va_P D vwCl W0 H) (hC : isC.map (fun i => W0[i]?) = WC.map some) : va_P D vwCl WC H := by
  intro k q hk
  have h3 : (isC.map (fun i => W0[i]?))[k]? = some (some q) := by rw [hC, List.getElem?_map, hk]; rfl
  rw [List.getElem?_map] at h3
  cases hi : isC[k]? with
  | none => rw [hi] at h3; cases h3
  | some i => rw [hi] at h3; exact hP i q (Option.some.inj h3)
theorem kmVv {isC isR isN its : List Nat} (S : CallFix p m c cc nL s args Ts own) (hM : MMv l y wsC rmC (.ref b :: As) D WC W2 tyC) (cw : CallW R s args own C index y bytes maxL ret wsC rmC 0 0 n) (hP : va_P D vwCl W0 H) (hD : va_D A W0) (hA : ∀ q, H0.size ≤ q → A q) (hS : va_S A H0 H locs) (hK : va_K D vwCl tys s) (hC : isC.map (fun i => W0[i]?) = WC.map some) (hnC : va_nd isC = true) (hR : isR.map (fun i => W0[i]?) = WR.map some) (hnR : va_nd isR = true) (hdis : ∀ i ∈ isR, i ∉ isC) (hN : isN.map (fun i => (WR ++ W2)[i]?) = WN.map some) (hnN : va_nd isN = true) (hty : its.filterMap (fun i => tys[i]?) = tyC) (hc : vwCl[ci]? = some (C, T, N)) (he : WC[q0]? = some (b, .inr (ci, fs))) (hn : As.length = n) (hst : st = As.reverse ++ .ref b :: rest) (hsz : ls.size = nL) (hW : (rest.map fun v => v.category).sum ≤ 8) (hd : decode cc pc = .ok (.invokevirtual index, 3)) (hf : cells + 0 ≤ R.cells ∧ slots + 0 ≤ R.slots)
    (kk : ∀ (H1 : Heap) (locs1 : List Loc), va_P D vwCl WN H1 → va_D A WN → va_S A H0 H1 locs1 → W p l e R s m args below meth c H1 locs1 cells slots Q (F0 m (pc + 3) ls rest)) : W p l e R s m args below meth c H locs cells slots Q (F0 m pc ls st) := by
  subst hst
  have hPc : va_P D vwCl WC H := kPick hP hC
  have hDc : va_D A WC := hD.sub isC hnC hC
  have hKc : va_K D vwCl tyC s := hK.sub its hty
  have hFc := va_free hD hS hA isC hC
  exact va_callv (va_runV (As := As) (rest := rest) S (hM H.size) cw ⟨kB.blind, va_recv hKc hPc hc he, fun U hU hW => ⟨rfl, by rw [hU], by rw [hU]; exact hPc, va_K.moved hW.alike hKc, hDc.weaken (fun _ _ _ _ => trivial)⟩⟩ rfl hn hsz rfl (lv_room hW) hd hf) hS (fun q _ h => hFc q h) hFc (fun u t H1 locs1 ht hvm hw hB hz1 hk1 hS1 => by
    obtain ⟨hP1, hK1, hD1⟩ := hB
    rw [ht] at hP1
    obtain ⟨a1, a2⟩ := kBack hP hD hA hS hC hR hnR hdis hN hnN hk1 hP1 hD1
    exact kk H1 locs1 a1 a2 hS1)
theorem kmVi {r : Int32} {isC isR isN its : List Nat} (S : CallFix p m c cc nL s args Ts own) (hM : MMi l y wsC rmC (.ref b :: As) D WC W2 tyC r) (cw : CallW R s args own C index y bytes maxL ret wsC rmC 0 0 n) (hP : va_P D vwCl W0 H) (hD : va_D A W0) (hA : ∀ q, H0.size ≤ q → A q) (hS : va_S A H0 H locs) (hK : va_K D vwCl tys s) (hC : isC.map (fun i => W0[i]?) = WC.map some) (hnC : va_nd isC = true) (hR : isR.map (fun i => W0[i]?) = WR.map some) (hnR : va_nd isR = true) (hdis : ∀ i ∈ isR, i ∉ isC) (hN : isN.map (fun i => (WR ++ W2)[i]?) = WN.map some) (hnN : va_nd isN = true) (hty : its.filterMap (fun i => tys[i]?) = tyC) (hc : vwCl[ci]? = some (C, T, N)) (he : WC[q0]? = some (b, .inr (ci, fs))) (hn : As.length = n) (hst : st = As.reverse ++ .ref b :: rest) (hsz : ls.size = nL) (hW : (rest.map fun v => v.category).sum ≤ 8) (hd : decode cc pc = .ok (.invokevirtual index, 3)) (hf : cells + 0 ≤ R.cells ∧ slots + 0 ≤ R.slots)
    (kk : ∀ (H1 : Heap) (locs1 : List Loc), va_P D vwCl WN H1 → va_D A WN → va_S A H0 H1 locs1 → W p l e R s m args below meth c H1 locs1 cells slots Q (F0 m (pc + 3) ls (.int r :: rest))) : W p l e R s m args below meth c H locs cells slots Q (F0 m pc ls st) := by
  subst hst
  have hPc : va_P D vwCl WC H := kPick hP hC
  have hDc : va_D A WC := hD.sub isC hnC hC
  have hKc : va_K D vwCl tyC s := hK.sub its hty
  have hFc := va_free hD hS hA isC hC
  exact va_calli (va_runV (As := As) (rest := rest) S (hM H.size) cw ⟨kB.blind, va_recv hKc hPc hc he, fun U hU hW => ⟨rfl, by rw [hU], by rw [hU]; exact hPc, va_K.moved hW.alike hKc, hDc.weaken (fun _ _ _ _ => trivial)⟩⟩ rfl hn hsz rfl (lv_room hW) hd hf) hS (fun q _ h => hFc q h) hFc (fun x u t H1 locs1 ht hvm hw hB hz1 hk1 hS1 => by
    obtain ⟨hP1, hK1, hD1⟩ := hB
    rw [ht] at hP1
    obtain ⟨a1, a2⟩ := kBack hP hD hA hS hC hR hnR hdis hN hnN hk1 hP1 hD1
    subst hw
    exact kk H1 locs1 a1 a2 hS1)
theorem kmVl {r : Int64} {isC isR isN its : List Nat} (S : CallFix p m c cc nL s args Ts own) (hM : MMl l y wsC rmC (.ref b :: As) D WC W2 tyC r) (cw : CallW R s args own C index y bytes maxL ret wsC rmC 0 0 n) (hP : va_P D vwCl W0 H) (hD : va_D A W0) (hA : ∀ q, H0.size ≤ q → A q) (hS : va_S A H0 H locs) (hK : va_K D vwCl tys s) (hC : isC.map (fun i => W0[i]?) = WC.map some) (hnC : va_nd isC = true) (hR : isR.map (fun i => W0[i]?) = WR.map some) (hnR : va_nd isR = true) (hdis : ∀ i ∈ isR, i ∉ isC) (hN : isN.map (fun i => (WR ++ W2)[i]?) = WN.map some) (hnN : va_nd isN = true) (hty : its.filterMap (fun i => tys[i]?) = tyC) (hc : vwCl[ci]? = some (C, T, N)) (he : WC[q0]? = some (b, .inr (ci, fs))) (hn : As.length = n) (hst : st = As.reverse ++ .ref b :: rest) (hsz : ls.size = nL) (hW : (rest.map fun v => v.category).sum ≤ 8) (hd : decode cc pc = .ok (.invokevirtual index, 3)) (hf : cells + 0 ≤ R.cells ∧ slots + 0 ≤ R.slots)
    (kk : ∀ (H1 : Heap) (locs1 : List Loc), va_P D vwCl WN H1 → va_D A WN → va_S A H0 H1 locs1 → W p l e R s m args below meth c H1 locs1 cells slots Q (F0 m (pc + 3) ls (.long r :: rest))) : W p l e R s m args below meth c H locs cells slots Q (F0 m pc ls st) := by
  subst hst
  have hPc : va_P D vwCl WC H := kPick hP hC
  have hDc : va_D A WC := hD.sub isC hnC hC
  have hKc : va_K D vwCl tyC s := hK.sub its hty
  have hFc := va_free hD hS hA isC hC
  exact va_calll (va_runV (As := As) (rest := rest) S (hM H.size) cw ⟨kB.blind, va_recv hKc hPc hc he, fun U hU hW => ⟨rfl, by rw [hU], by rw [hU]; exact hPc, va_K.moved hW.alike hKc, hDc.weaken (fun _ _ _ _ => trivial)⟩⟩ rfl hn hsz rfl (lv_room hW) hd hf) hS (fun q _ h => hFc q h) hFc (fun x u t H1 locs1 ht hvm hw hB hz1 hk1 hS1 => by
    obtain ⟨hP1, hK1, hD1⟩ := hB
    rw [ht] at hP1
    obtain ⟨a1, a2⟩ := kBack hP hD hA hS hC hR hnR hdis hN hnN hk1 hP1 hD1
    subst hw
    exact kk H1 locs1 a1 a2 hS1)
end KCalls
/-! compares of longs: what a branch behind lcmp says -/
theorem lc_lt {x y : Int64} : lg_cmp x y < 0 ↔ x < y := by
  unfold lg_cmp
  by_cases h1 : y < x
  · simp only [h1, if_true]; constructor
    · intro h; exact absurd h (by decide)
    · intro h; exact absurd (Int64.lt_trans h h1) (Int64.lt_irrefl)
  · by_cases h2 : x = y
    · subst h2; simp
    · simp only [h1, h2, if_false]; constructor
      · intro _; exact Int64.lt_of_le_of_ne (Int64.not_lt.mp h1) h2
      · intro _; decide
theorem lc_eq {x y : Int64} : lg_cmp x y = 0 ↔ x = y := by
  unfold lg_cmp
  by_cases h1 : y < x
  · simp only [h1, if_true]; constructor
    · intro h; exact absurd h (by decide)
    · intro h; subst h; exact absurd h1 Int64.lt_irrefl
  · by_cases h2 : x = y
    · subst h2; simp
    · simp [h1, h2]
theorem lc_gt {x y : Int64} : 0 < lg_cmp x y ↔ y < x := by
  unfold lg_cmp
  by_cases h1 : y < x
  · simp only [h1, if_true]; constructor
    · intro _; trivial
    · intro _; decide
  · by_cases h2 : x = y
    · subst h2; simp
    · simp [h1, h2]
theorem lc_ge {x y : Int64} : 0 ≤ lg_cmp x y ↔ y ≤ x := by rw [← Int32.not_lt, lc_lt, Int64.not_lt]
theorem lc_le {x y : Int64} : lg_cmp x y ≤ 0 ↔ x ≤ y := by rw [← Int32.not_lt, lc_gt, Int64.not_lt]
def lMax (x y : Int64) : Int64 := if y < x then x else y
def lMin (x y : Int64) : Int64 := if y < x then y else x
def lAbs (x : Int64) : Int64 := if 0 < x then x else -x
theorem kz1 {P : Prop} [Decidable P] (h : P) : (1 : Int32) = bI (decide P) := by simp [bI, h]
theorem kz0 {P : Prop} [Decidable P] (h : ¬ P) : (0 : Int32) = bI (decide P) := by simp [bI, h]
/-! arrays of counts, arrays of booleans -/
def nF (f : Nat → Nat) : Nat → Int32 := fun k => nI (f k)
def bF (f : Nat → Bool) : Nat → Int32 := fun k => bI (f k)
theorem nF_upd (f : Nat → Nat) (k v : Nat) : upd (nF f) k (nI v) = nF (va_up f k v) := by
  funext j; unfold nF upd va_up; dsimp only; split <;> rfl
theorem bF_upd (f : Nat → Bool) (k : Nat) (b : Bool) : upd (bF f) k (bI b) = bF (va_up f k b) := by
  funext j; unfold bF upd va_up; dsimp only; split <;> rfl
theorem vp_nar_bI (b : Bool) : vp_nar .boolean (bI b) = bI b := by cases b <;> rfl
/-- a Prop as a Bool -/
noncomputable def pB (P : Prop) : Bool := @decide P (Classical.propDecidable P)
theorem pB_iff {P : Prop} : pB P = true ↔ P := @decide_eq_true_iff P (Classical.propDecidable P)
theorem pB_not {P : Prop} (h : pB P = false) : ¬ P := fun q => by rw [pB_iff.mpr q] at h; exact absurd h (by decide)
theorem pB_t {P : Prop} (h : P) : pB P = true := pB_iff.mpr h
theorem pB_f {P : Prop} (h : ¬ P) : pB P = false := by cases hb : pB P; rfl; exact absurd (pB_iff.mp hb) h
theorem pB_congr {P Q : Prop} (h : P ↔ Q) : pB P = pB Q := by rw [Bool.eq_iff_iff, pB_iff, pB_iff]; exact h
theorem pB_dec {P : Prop} [Decidable P] : pB P = decide P := by rw [Bool.eq_iff_iff, pB_iff, decide_eq_true_iff]
theorem kp1 {P : Prop} (h : P) : (1 : Int32) = bI (pB P) := by rw [pB_t h]; rfl
theorem kp0 {P : Prop} (h : ¬ P) : (0 : Int32) = bI (pB P) := by rw [pB_f h]; rfl
