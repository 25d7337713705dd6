/-! Own kit, fourth part: methods that throw. What a throw needs of the start (tS): two statics that hold references, the texts, that an exception is of its class. -/
def tNm : List String := ["java/lang/RuntimeException", "java/lang/Exception"]
def tEx : List String := ["java/lang/IllegalStateException", "java/lang/IndexOutOfBoundsException", "java/lang/IllegalArgumentException"]
def tTx : List (Nat × String) := [(57, "there are 16 shapes"), (72, "the shape has 16 points"), (99, "there are 16 boxes"), (103, "the first corner is above the second"), (144, "the tile would overlap the player"), (152, "a side is not 1 .. 64"), (164, "the count is not 0 .. 8"), (181, "there is no such what"), (208, "there is no such number"), (214, "a number is not -10000 .. 10000")]
/-- what a throw needs of the tables that no row carries on by itself -/
def tBad : List Cond := [.castable "java/lang/IllegalStateException" "java/lang/IllegalStateException", .castable "java/lang/IndexOutOfBoundsException" "java/lang/IndexOutOfBoundsException", .castable "java/lang/IllegalArgumentException" "java/lang/IllegalArgumentException", .declares (Bundle.initS "java/lang/RuntimeException"), .declares (Bundle.initS "java/lang/Exception"), .declares (Bundle.initS Bundle.tN)]
theorem tBadO : ∀ w ∈ tBad, w.onTables = true := by decide +kernel
theorem tBad_warm {w : Cond} {s U : State} (hw : w ∈ tBad) (hW : s.WarmedH U.vm) (h : va_Nw w s) : va_Nw w U := by
  unfold tBad at hw
  rcases List.mem_cons.mp hw with rfl | hw
  · exact va_Nw.warmC hW h
  rcases List.mem_cons.mp hw with rfl | hw
  · exact va_Nw.warmC hW h
  rcases List.mem_cons.mp hw with rfl | hw
  · exact va_Nw.warmC hW h
  rcases List.mem_cons.mp hw with rfl | hw
  · exact va_Nw.warmD hW h
  rcases List.mem_cons.mp hw with rfl | hw
  · exact va_Nw.warmD hW h
  rcases List.mem_cons.mp hw with rfl | hw
  · exact va_Nw.warmD hW h
  cases hw
def tS (A : Nat → Prop) (U : State) : Prop := vx_Zq Bundle.tN "UNASSIGNED_STACK" Bundle.steD A U U.heap ∧ vx_Zq Bundle.tN "SUPPRESSED_SENTINEL" Bundle.listD A U U.heap ∧ (∀ q ∈ tTx, ∃ sa : Nat, vk_R RX4 q.1 q.2 sa U) ∧ (∀ w ∈ tBad, va_Nw w U)
theorem tS.call {A B : Nat → Prop} {s U : State} {H : Heap} {locs : List Loc} (h : tS A s) (hS : va_S A s.heap H locs) (hU : U.heap = H) (hW : s.WarmedH U.vm) (hAB : ∀ q, B q → A q) : tS B U := by
  refine ⟨?_, ?_, fun q hq => ?_, fun w hw => ?_⟩
  · rw [hU]; exact vx_Zq.narrow (vx_Zq.moved hW.alike (vx_Zq.kept h.1 hS.2.1)) hAB
  · rw [hU]; exact vx_Zq.narrow (vx_Zq.moved hW.alike (vx_Zq.kept h.2.1 hS.2.1)) hAB
  · obtain ⟨sa, h1⟩ := h.2.2.1 q hq; exact ⟨sa, vk_R.warm hW h1⟩
  · exact tBad_warm hw hW (h.2.2.2 w hw)
theorem tS.blind {A : Nat → Prop} {U : State} {g : JFrame} {mk : MethodId} {a : Array Value} (h : tS A U) : tS A (U.calling g mk a) :=
  ⟨vx_Zq.moved (u := U) (U := U.calling g mk a) (Vm.Alike.refl U.vm) h.1, vx_Zq.moved (u := U) (U := U.calling g mk a) (Vm.Alike.refl U.vm) h.2.1, fun q hq => (h.2.2.1 q hq).imp (fun _ h => vk_R.same rfl h), fun w hw => va_Nw.same (u := U) (tBadO w hw) rfl (h.2.2.2 w hw)⟩
def kTB (D : va_G) (W : va_W) (tys : List (ClassId × FieldType)) (sz : Nat) (U : State) : Prop := kB D W tys sz U ∧ tS (va_A W sz) U
theorem kTB.blind {av : List Value} {D : va_G} {W : va_W} {tys : List (ClassId × FieldType)} {sz : Nat} : FrameBlind (va_Pc av (kTB D W tys sz)) :=
  fun a U g mk q => ⟨q.1, (kB.blind (av := av) (D := D) (W := W) (tys := tys) (sz := sz) a U g mk ⟨q.1, q.2.1⟩).2, q.2.2.blind⟩
def TX {S : Type} (D : va_G) (W2 : S → va_W) (tys : List (ClassId × FieldType)) (E : String) (A : Nat → Prop) : String → State → State → Prop := vx_X (fun (_ : S) => True) (fun E' u t => E' = E ∧ kEx D W2 tys A u t) A
def TMv {S : Type} (l : Launch) (y : MethodName) (ws : List Cond) (rm : Room) (av : List Value) (D : va_G) (W : va_W) (W2 : S → va_W) (tys : List (ClassId × FieldType)) (E : String) : Prop :=
  l.stackTraces = false → ∀ sz : Nat, vx_Met l y ws rm (va_Pc av (kTB D W tys sz)) (va_Qv (fun (_ : Unit) => False) (fun _ _ => True) (va_A W sz)) (TX D W2 tys E (va_A W sz)) 1 6 (va_A W sz)
def TMi {S : Type} (l : Launch) (y : MethodName) (ws : List Cond) (rm : Room) (av : List Value) (D : va_G) (W : va_W) (W2 : S → va_W) (tys : List (ClassId × FieldType)) (E : String) : Prop :=
  l.stackTraces = false → ∀ sz : Nat, vx_Met l y ws rm (va_Pc av (kTB D W tys sz)) (va_Qi (fun _ (_ : Unit) => False) (fun _ _ => True) (va_A W sz)) (TX D W2 tys E (va_A W sz)) 1 6 (va_A W sz)
def TMl {S : Type} (l : Launch) (y : MethodName) (ws : List Cond) (rm : Room) (av : List Value) (D : va_G) (W : va_W) (W2 : S → va_W) (tys : List (ClassId × FieldType)) (E : String) : Prop :=
  l.stackTraces = false → ∀ sz : Nat, vx_Met l y ws rm (va_Pc av (kTB D W tys sz)) (va_Ql (fun _ (_ : Unit) => False) (fun _ _ => True) (va_A W sz)) (TX D W2 tys E (va_A W sz)) 1 6 (va_A W sz)
theorem kOfX {l : Launch} {y : MethodName} {ws ws' : List Cond} {rm : Room} {av : List Value} {B : State → Prop} {Qc : Array Value → State → Outcome → State → Prop} {XC : String → State → State → Prop} {mc ms : Nat} {free : Addr → Prop} {cc : ByteArray} {maxL : Nat} {ret : Option FieldType}
    (hy : plainName y.cls = true) (hw : ws = Cond.code y cc maxL ret :: ws') (hn : (lg_sl av).length ≤ maxL)
    (body : ∀ (p : Program) (e : Env) (s : State) (m : MethodId) (below : List Frame) (meth : Method) (c : Code), p.tables.exec = Jvm.exec → c.code = cc → meth.sig.returnType = ret → c.maxLocals = maxL → (∀ w ∈ ws, w.before av.toArray s = true) → s.vm.findClass y.cls = some m.cls → meth.locks = false → (∀ x ∈ c.exceptionTable.toList, False) → B s → ∀ ls : Array Slot, lv_has ls maxL (lv_args 0 av) → W p l e rm s m av.toArray below meth c s.heap [] 0 0 (vx_MQ below Qc XC av.toArray s mc ms free) (F0 m 0 ls [])) :
    vx_Met l y ws rm (va_Pc av B) Qc XC mc ms free := by
  refine vx_ofW (cc := cc) (maxL := maxL) (ret := ret) hy hw ?_
  intro p e s m args below meth c s₁ B0 hml htab hv
  obtain ⟨rfl, hB⟩ := hv
  have hl := lv_entry av (n := maxL) hn
  rw [lg_entry_eq]
  exact body p e s m below meth c B0.exec B0.bytes B0.returns hml (atoms_spec (ws := ws) B0.pre) (findClass_of_methodNamed B0.named) B0.notSynchronized htab hB _ hl
section KT
variable {p : Program} {l : Launch} {e : Env} {R : Room} {s : State} {m : MethodId} {args : Array Value} {below : List Frame} {meth : Method} {c : Code} {H : Heap} {locs : List Loc}
variable {cc : ByteArray} {pc nL n index ci q0 N maxL : Nat} {ls : Array Slot} {rest As st : List Value} {D : va_G} {W0 WC WR : va_W} {S Sc : Type} {W2 : S → va_W} {W2c WN : Sc → va_W} {tys tyC : List (ClassId × FieldType)} {A : Nat → Prop} {own C : String} {y : MethodName} {wsC Ts : List Cond} {rmC : Room} {bytes : ByteArray} {ret : Option FieldType} {b : Nat} {fs : List Value} {T : u_T} {Qc : Array Value → State → Outcome → State → Prop} {E : String}
theorem kThrow {cls text : String} {ik is ic : Nat} {u : S} (hx : p.tables.exec = Jvm.exec) (hb : c.code = cc) (hlt : l.stackTraces = false) (hown : s.vm.findClass RX4 = some m.cls) (hcls : Bundle.fit cls = true) (hnm : ∀ n ∈ tNm, Bundle.fit n = true) (hE : cls ∈ tEx) (hk : (Cond.classLink RX4 ik cls).before args s = true) (hini : (Cond.initialized cls).before args s = true) (htx : (is, text) ∈ tTx)
    (hat : ∀ w ∈ (vx_atS RX4 ic cls tNm).filter goodWord, w.before args s = true) (hbad : ∀ w ∈ (vx_atS RX4 ic cls tNm).filter (fun w => !goodWord w), w ∈ tBad) (hgood : ∀ w ∈ Cond.classLink RX4 ik cls :: Cond.initialized cls :: vx_atS RX4 ic cls tNm, vx_ot w = true) (hT : tS A s) (hS : va_S A s.heap H locs) (hsize : ls.size = c.maxLocals)
    (d0 : decode cc pc = .ok (.new ik, 3)) (d3 : decode cc (pc + 3) = .ok (.dup, 1)) (d4 : decode cc (pc + 4) = .ok (.ldc is, 2)) (d6 : decode cc (pc + 6) = .ok (.invokespecial ic, 3)) (d9 : decode cc (pc + 9) = .ok (.athrow, 1)) (htab : ∀ x ∈ c.exceptionTable.toList, False)
    (hfr : tNm.length + 3 < R.frames) (hlo : (rest.map fun v => v.category).sum + (13 * (tNm.length + 1) + 43) ≤ R.locals) (hRc : 0 + 1 ≤ R.cells) (hRs : 0 + 6 ≤ R.slots) (hlocks : meth.locks = false) (hP : va_P D vwCl (W2 u) H) (hK : va_K D vwCl tys s) (hD : va_D A (W2 u)) :
    W p l e R s m args below meth c H locs 0 0 (vx_MQ below Qc (TX D W2 tys cls A) args s 1 6 A) (F0 m pc ls rest) := by
  obtain ⟨sa, hsa⟩ := hT.2.2.1 _ htx
  exact vx_throwS hx hb hlt hown hcls hnm hk hini hsa (vx_hat hat hbad (fun w hw => va_Nw.use (tBadO w hw) (hT.2.2.2 w hw))) hgood hT.1 hT.2.1 hS hsize d0 d3 d4 d6 d9 (fun x h => (htab x h).elim) hfr hlo hRc hRs hlocks
    (fun t hvm hz hk => ⟨u, trivial, ⟨rfl, hP.kept (fun k q h => hk q.1 ((hP k q h).lt)), va_K.moved hvm hK, hD⟩, ⟨Nat.le_trans hS.1 hz, fun q h1 h2 => (hk q (Nat.lt_of_lt_of_le h1 hS.1)).trans (hS.2.1 q h1 h2)⟩⟩) hS.2.2 (Nat.le_refl _) (Nat.le_refl _)
theorem kTS {isC isR isN its : List Nat} (S0 : CallFix p m c cc nL s args Ts own) (hM : TMv l y wsC rmC As D WC W2c tyC E) (hlt : l.stackTraces = false) (cw : CallB R s args own index y bytes maxL ret wsC rmC 1 6 n ∧ (Cond.static y).before args s = true) (hP : va_P D vwCl W0 H) (hD : va_D A W0) (hA : ∀ q, s.heap.size ≤ q → A q) (hS : va_S A s.heap H locs) (hK : va_K D vwCl tys s) (hT : tS A s) (hC : isC.map (fun i => W0[i]?) = WC.map some) (hnC : va_nd isC = true) (hR : isR.map (fun i => W0[i]?) = WR.map some) (hnR : va_nd isR = true) (hdis : ∀ i ∈ isR, i ∉ isC) (hN : ∀ u : Sc, isN.map (fun i => (WR ++ W2c u)[i]?) = (WN u).map some) (hnN : va_nd isN = true) (hty : its.filterMap (fun i => tys[i]?) = tyC) (hn : As.length = n) (hst : st = As.reverse ++ rest) (hsz : ls.size = nL) (hW : (rest.map fun v => v.category).sum ≤ 8) (hd : decode cc pc = .ok (.invokestatic index, 3)) (hf : 0 + 1 ≤ R.cells ∧ 0 + 6 ≤ R.slots) (htab : ∀ x ∈ c.exceptionTable.toList, False) (hlocks : meth.locks = false) (g : Sc → S) (hg : ∀ u, WN u = W2 (g u)) :
    W p l e R s m args below meth c H locs 0 0 (vx_MQ below Qc (TX D W2 tys E A) args s 1 6 A) (F0 m pc ls st) := by
  subst hst
  have hPc : va_P D vwCl WC H := kPick hP hC
  have hDc : va_D A WC := hD.sub isC hnC hC
  have hKc : va_K D vwCl tyC s := hK.sub its hty
  have hFc := va_free hD hS hA isC hC
  exact vx_callv (vx_runS (As := As) (rest := rest) S0 (hM hlt H.size) cw ⟨kTB.blind, fun U hU hW => ⟨rfl, ⟨by rw [hU], by rw [hU]; exact hPc, va_K.moved hW.alike hKc, hDc.weaken (fun _ _ _ _ => trivial)⟩, hT.call hS hU hW hFc⟩⟩ rfl hn hsz rfl (lv_room hW) hd hf) hS (fun q _ h => hFc q h) hFc (fun q _ h => hFc q h)
    (fun E' ce q9 u t H1 locs1 ht hvm _ hB hz1 hk1 hS1 hce hcv hcl => by
      obtain ⟨rfl, hP1, hK1, hD1⟩ := hB
      rw [ht] at hP1
      obtain ⟨a1, a2⟩ := kBack hP hD hA hS hC hR hnR hdis (hN u) hnN hk1 hP1 hD1
      rw [hg u] at a1 a2
      exact vx_out (fun x h => (htab x h).elim) hlocks hce hcv hcl (fun t' ht' hvm' => ⟨g u, trivial, ⟨rfl, by rw [ht']; exact a1, va_K.moved hvm' hK, a2⟩, hS1.F ht'⟩) hS1.2.2 (Nat.le_refl _) (Nat.le_refl _))
    (fun u t H1 locs1 ht hvm hpost => hpost.elim)
theorem kTV {isC isR isN its : List Nat} (S0 : CallFix p m c cc nL s args Ts own) (hM : TMv l y wsC rmC (.ref b :: As) D WC W2c tyC E) (hlt : l.stackTraces = false) (cw : CallW R s args own C index y bytes maxL ret wsC rmC 1 6 n) (hP : va_P D vwCl W0 H) (hD : va_D A W0) (hA : ∀ q, s.heap.size ≤ q → A q) (hS : va_S A s.heap H locs) (hK : va_K D vwCl tys s) (hT : tS A s) (hC : isC.map (fun i => W0[i]?) = WC.map some) (hnC : va_nd isC = true) (hR : isR.map (fun i => W0[i]?) = WR.map some) (hnR : va_nd isR = true) (hdis : ∀ i ∈ isR, i ∉ isC) (hN : ∀ u : Sc, isN.map (fun i => (WR ++ W2c u)[i]?) = (WN u).map some) (hnN : va_nd isN = true) (hty : its.filterMap (fun i => tys[i]?) = tyC) (hc : vwCl[ci]? = some (C, T, N)) (he : WC[q0]? = some (b, .inr (ci, fs))) (hn : As.length = n) (hst : st = As.reverse ++ .ref b :: rest) (hsz : ls.size = nL) (hW : (rest.map fun v => v.category).sum ≤ 8) (hd : decode cc pc = .ok (.invokevirtual index, 3)) (hf : 0 + 1 ≤ R.cells ∧ 0 + 6 ≤ R.slots) (htab : ∀ x ∈ c.exceptionTable.toList, False) (hlocks : meth.locks = false) (g : Sc → S) (hg : ∀ u, WN u = W2 (g u)) :
    W p l e R s m args below meth c H locs 0 0 (vx_MQ below Qc (TX D W2 tys E A) args s 1 6 A) (F0 m pc ls st) := by
  subst hst
  have hPc : va_P D vwCl WC H := kPick hP hC
  have hDc : va_D A WC := hD.sub isC hnC hC
  have hKc : va_K D vwCl tyC s := hK.sub its hty
  have hFc := va_free hD hS hA isC hC
  exact vx_callv (vx_runV (As := As) (rest := rest) S0 (hM hlt H.size) cw ⟨kTB.blind, va_recv hKc hPc hc he, fun U hU hW => ⟨rfl, ⟨by rw [hU], by rw [hU]; exact hPc, va_K.moved hW.alike hKc, hDc.weaken (fun _ _ _ _ => trivial)⟩, hT.call hS hU hW hFc⟩⟩ rfl hn hsz rfl (lv_room hW) hd hf) hS (fun q _ h => hFc q h) hFc (fun q _ h => hFc q h)
    (fun E' ce q9 u t H1 locs1 ht hvm _ hB hz1 hk1 hS1 hce hcv hcl => by
      obtain ⟨rfl, hP1, hK1, hD1⟩ := hB
      rw [ht] at hP1
      obtain ⟨a1, a2⟩ := kBack hP hD hA hS hC hR hnR hdis (hN u) hnN hk1 hP1 hD1
      rw [hg u] at a1 a2
      exact vx_out (fun x h => (htab x h).elim) hlocks hce hcv hcl (fun t' ht' hvm' => ⟨g u, trivial, ⟨rfl, by rw [ht']; exact a1, va_K.moved hvm' hK, a2⟩, hS1.F ht'⟩) hS1.2.2 (Nat.le_refl _) (Nat.le_refl _))
    (fun u t H1 locs1 ht hvm hpost => hpost.elim)
end KT
