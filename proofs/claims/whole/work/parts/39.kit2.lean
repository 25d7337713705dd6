/-! Own kit, second part: contracts whose world behind them is known but for some numbers (scratch). -/
def kEx {S : Type} (D : va_G) (W2 : S → va_W) (tys : List (ClassId × FieldType)) (A : Nat → Prop) (u : S) (t : State) : Prop := va_P D vwCl (W2 u) t.heap ∧ va_K D vwCl tys t ∧ va_D A (W2 u)
def XMi {S : Type} (l : Launch) (y : MethodName) (ws : List Cond) (rm : Room) (av : List Value) (D : va_G) (W : va_W) (W2 : S → va_W) (tys : List (ClassId × FieldType)) (r : Int32) : Prop :=
  ∀ sz : Nat, Met l y ws rm (va_Pc av (kB D W tys sz)) (va_Qi (fun x (_ : S) => x = r) (kEx D W2 tys (va_A W sz)) (va_A W sz)) 0 0 (va_A W sz)
def XMv {S : Type} (l : Launch) (y : MethodName) (ws : List Cond) (rm : Room) (av : List Value) (D : va_G) (W : va_W) (W2 : S → va_W) (tys : List (ClassId × FieldType)) : Prop :=
  ∀ sz : Nat, Met l y ws rm (va_Pc av (kB D W tys sz)) (va_Qv (fun (_ : S) => True) (kEx D W2 tys (va_A W sz)) (va_A W sz)) 0 0 (va_A W sz)
section KX
variable {p : Program} {l : Launch} {e : Env} {R : Room} {s : State} {m : MethodId} {args : Array Value} {below : List Frame} {meth : Method} {c : Code} {H : Heap} {locs : List Loc} {cells slots : Nat} {Q : State → Prop}
variable {cc : ByteArray} {pc nL n index ci q0 N maxL : Nat} {ls : Array Slot} {rest As st : List Value} {D : va_G} {W0 WC WR : va_W} {S : Type} {W2 WN : S → va_W} {tys tyC : List (ClassId × FieldType)} {A : Nat → Prop} {H0 : Heap} {own C : String} {y : MethodName} {wsC Ts : List Cond} {rmC : Room} {bytes : ByteArray} {ret : Option FieldType} {b : Nat} {fs : List Value} {T : u_T}
theorem kXi {u : S} (hx : p.tables.exec = Jvm.exec) (hb : c.code = cc) (hr : meth.sig.returnType = some .int) (hlocks : meth.locks = false) (hP : va_P D vwCl (W2 u) H) (hK : va_K D vwCl tys s) (hD : va_D A (W2 u)) (hS : va_S A s.heap H locs) {v r : Int32} (hd : decode cc pc = .ok (.ireturn, 1)) (h : v = r) :
    W p l e R s m args below meth c H locs cells slots (MQ below (va_Qi (fun x (_ : S) => x = r) (kEx D W2 tys A) A) args s cells slots A) (F0 m pc ls [.int v]) :=
  W.iret hx hb hr (fun t ht hW => ⟨⟨v, u, rfl, h, by rw [ht]; exact hP, va_K.moved hW.alike hK, hD⟩, hS.F ht⟩) hS.2.2 hd hlocks
theorem kXz {u : S} (hx : p.tables.exec = Jvm.exec) (hb : c.code = cc) (hr : meth.sig.returnType = some .boolean) (hlocks : meth.locks = false) (hP : va_P D vwCl (W2 u) H) (hK : va_K D vwCl tys s) (hD : va_D A (W2 u)) (hS : va_S A s.heap H locs) {v : Int32} {bb : Bool} (hd : decode cc pc = .ok (.ireturn, 1)) (h : v = bI bb) :
    W p l e R s m args below meth c H locs cells slots (MQ below (va_Qi (fun x (_ : S) => x = bI bb) (kEx D W2 tys A) A) args s cells slots A) (F0 m pc ls [.int v]) :=
  W.zret hx hb hr (by rw [h]; exact bI_nar bb) (fun t ht hW => ⟨⟨v, u, rfl, h, by rw [ht]; exact hP, va_K.moved hW.alike hK, hD⟩, hS.F ht⟩) hS.2.2 hd hlocks
theorem kXv {u : S} (hx : p.tables.exec = Jvm.exec) (hb : c.code = cc) (hr : meth.sig.returnType = none) (hlocks : meth.locks = false) (hP : va_P D vwCl (W2 u) H) (hK : va_K D vwCl tys s) (hD : va_D A (W2 u)) (hS : va_S A s.heap H locs) (hd : decode cc pc = .ok (.return_, 1)) :
    W p l e R s m args below meth c H locs cells slots (MQ below (va_Qv (fun (_ : S) => True) (kEx D W2 tys A) A) args s cells slots A) (F0 m pc ls []) :=
  W.vret hx hb hr (fun t ht hW => ⟨⟨u, rfl, trivial, by rw [ht]; exact hP, va_K.moved hW.alike hK, hD⟩, hS.F ht⟩) hS.2.2 hd hlocks
theorem kxVv {isC isR isN its : List Nat} (S0 : CallFix p m c cc nL s args Ts own) (hM : XMv l y wsC rmC (.ref b :: As) D WC W2 tyC) (cw : CallW R s args own C index y bytes maxL ret wsC rmC 0 0 n) (hP : va_P D vwCl W0 H) (hD : va_D A W0) (hA : ∀ q, H0.size ≤ q → A q) (hS : va_S A H0 H locs) (hK : va_K D vwCl tys s) (hC : isC.map (fun i => W0[i]?) = WC.map some) (hnC : va_nd isC = true) (hR : isR.map (fun i => W0[i]?) = WR.map some) (hnR : va_nd isR = true) (hdis : ∀ i ∈ isR, i ∉ isC) (hN : ∀ u : S, isN.map (fun i => (WR ++ W2 u)[i]?) = (WN u).map some) (hnN : va_nd isN = true) (hty : its.filterMap (fun i => tys[i]?) = tyC) (hc : vwCl[ci]? = some (C, T, N)) (he : WC[q0]? = some (b, .inr (ci, fs))) (hn : As.length = n) (hst : st = As.reverse ++ .ref b :: rest) (hsz : ls.size = nL) (hW : (rest.map fun v => v.category).sum ≤ 8) (hd : decode cc pc = .ok (.invokevirtual index, 3)) (hf : cells + 0 ≤ R.cells ∧ slots + 0 ≤ R.slots)
    (kk : ∀ (u : S) (H1 : Heap) (locs1 : List Loc), va_P D vwCl (WN u) H1 → va_D A (WN u) → va_S A H0 H1 locs1 → W p l e R s m args below meth c H1 locs1 cells slots Q (F0 m (pc + 3) ls rest)) : W p l e R s m args below meth c H locs cells slots Q (F0 m pc ls st) := by
  subst hst
  have hPc : va_P D vwCl WC H := kPick hP hC
  have hDc : va_D A WC := hD.sub isC hnC hC
  have hKc : va_K D vwCl tyC s := hK.sub its hty
  have hFc := va_free hD hS hA isC hC
  exact va_callv (va_runV (As := As) (rest := rest) S0 (hM H.size) cw ⟨kB.blind, va_recv hKc hPc hc he, fun U hU hW => ⟨rfl, by rw [hU], by rw [hU]; exact hPc, va_K.moved hW.alike hKc, hDc.weaken (fun _ _ _ _ => trivial)⟩⟩ rfl hn hsz rfl (lv_room hW) hd hf) hS (fun q _ h => hFc q h) hFc (fun u t H1 locs1 ht hvm hw hB hz1 hk1 hS1 => by
    obtain ⟨hP1, hK1, hD1⟩ := hB
    rw [ht] at hP1
    obtain ⟨a1, a2⟩ := kBack hP hD hA hS hC hR hnR hdis (hN u) hnN hk1 hP1 hD1
    exact kk u H1 locs1 a1 a2 hS1)
theorem kxVi {r : Int32} {isC isR isN its : List Nat} (S0 : CallFix p m c cc nL s args Ts own) (hM : XMi l y wsC rmC (.ref b :: As) D WC W2 tyC r) (cw : CallW R s args own C index y bytes maxL ret wsC rmC 0 0 n) (hP : va_P D vwCl W0 H) (hD : va_D A W0) (hA : ∀ q, H0.size ≤ q → A q) (hS : va_S A H0 H locs) (hK : va_K D vwCl tys s) (hC : isC.map (fun i => W0[i]?) = WC.map some) (hnC : va_nd isC = true) (hR : isR.map (fun i => W0[i]?) = WR.map some) (hnR : va_nd isR = true) (hdis : ∀ i ∈ isR, i ∉ isC) (hN : ∀ u : S, isN.map (fun i => (WR ++ W2 u)[i]?) = (WN u).map some) (hnN : va_nd isN = true) (hty : its.filterMap (fun i => tys[i]?) = tyC) (hc : vwCl[ci]? = some (C, T, N)) (he : WC[q0]? = some (b, .inr (ci, fs))) (hn : As.length = n) (hst : st = As.reverse ++ .ref b :: rest) (hsz : ls.size = nL) (hW : (rest.map fun v => v.category).sum ≤ 8) (hd : decode cc pc = .ok (.invokevirtual index, 3)) (hf : cells + 0 ≤ R.cells ∧ slots + 0 ≤ R.slots)
    (kk : ∀ (u : S) (H1 : Heap) (locs1 : List Loc), va_P D vwCl (WN u) H1 → va_D A (WN u) → va_S A H0 H1 locs1 → W p l e R s m args below meth c H1 locs1 cells slots Q (F0 m (pc + 3) ls (.int r :: rest))) : W p l e R s m args below meth c H locs cells slots Q (F0 m pc ls st) := by
  subst hst
  have hPc : va_P D vwCl WC H := kPick hP hC
  have hDc : va_D A WC := hD.sub isC hnC hC
  have hKc : va_K D vwCl tyC s := hK.sub its hty
  have hFc := va_free hD hS hA isC hC
  exact va_calli (va_runV (As := As) (rest := rest) S0 (hM H.size) cw ⟨kB.blind, va_recv hKc hPc hc he, fun U hU hW => ⟨rfl, by rw [hU], by rw [hU]; exact hPc, va_K.moved hW.alike hKc, hDc.weaken (fun _ _ _ _ => trivial)⟩⟩ rfl hn hsz rfl (lv_room hW) hd hf) hS (fun q _ h => hFc q h) hFc (fun x u t H1 locs1 ht hvm hw hB hz1 hk1 hS1 => by
    obtain ⟨hP1, hK1, hD1⟩ := hB
    rw [ht] at hP1
    obtain ⟨a1, a2⟩ := kBack hP hD hA hS hC hR hnR hdis (hN u) hnN hk1 hP1 hD1
    subst hw
    exact kk u H1 locs1 a1 a2 hS1)
end KX
