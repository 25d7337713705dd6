/-! Own kit, third part: static methods that change cells -/
section KS
variable {p : Program} {l : Launch} {e : Env} {R : Room} {s : State} {m : MethodId} {args : Array Value} {below : List Frame} {meth : Method} {c : Code} {H : Heap} {locs : List Loc} {cells slots : Nat} {Q : State → Prop}
variable {cc : ByteArray} {pc nL n index maxL : Nat} {ls : Array Slot} {rest As st : List Value} {D : va_G} {W0 WC W2 WR WN : va_W} {tys tyC : List (ClassId × FieldType)} {A : Nat → Prop} {H0 : Heap} {own : String} {y : MethodName} {wsC Ts : List Cond} {rmC : Room} {bytes : ByteArray} {ret : Option FieldType}
theorem kmSv {isC isR isN its : List Nat} (S : CallFix p m c cc nL s args Ts own) (hM : MMv l y wsC rmC As D WC W2 tyC) (cw : CallB R s args own index y bytes maxL ret wsC rmC 0 0 n ∧ (Cond.static y).before args s = true) (hP : va_P D vwCl W0 H) (hD : va_D A W0) (hA : ∀ q, H0.size ≤ q → A q) (hS : va_S A H0 H locs) (hK : va_K D vwCl tys s) (hC : isC.map (fun i => W0[i]?) = WC.map some) (hnC : va_nd isC = true) (hR : isR.map (fun i => W0[i]?) = WR.map some) (hnR : va_nd isR = true) (hdis : ∀ i ∈ isR, i ∉ isC) (hN : isN.map (fun i => (WR ++ W2)[i]?) = WN.map some) (hnN : va_nd isN = true) (hty : its.filterMap (fun i => tys[i]?) = tyC) (hn : As.length = n) (hst : st = As.reverse ++ rest) (hsz : ls.size = nL) (hW : (rest.map fun v => v.category).sum ≤ 8) (hd : decode cc pc = .ok (.invokestatic index, 3)) (hf : cells + 0 ≤ R.cells ∧ slots + 0 ≤ R.slots)
    (kk : ∀ (H1 : Heap) (locs1 : List Loc), va_P D vwCl WN H1 → va_D A WN → va_S A H0 H1 locs1 → W p l e R s m args below meth c H1 locs1 cells slots Q (F0 m (pc + 3) ls rest)) : W p l e R s m args below meth c H locs cells slots Q (F0 m pc ls st) := by
  subst hst
  have hPc : va_P D vwCl WC H := kPick hP hC
  have hDc : va_D A WC := hD.sub isC hnC hC
  have hKc : va_K D vwCl tyC s := hK.sub its hty
  have hFc := va_free hD hS hA isC hC
  exact va_callv (va_runS (As := As) (rest := rest) S (hM H.size) cw ⟨kB.blind, fun U hU hW => ⟨rfl, by rw [hU], by rw [hU]; exact hPc, va_K.moved hW.alike hKc, hDc.weaken (fun _ _ _ _ => trivial)⟩⟩ rfl hn hsz rfl (lv_room hW) hd hf) hS (fun q _ h => hFc q h) hFc (fun u t H1 locs1 ht hvm hw hB hz1 hk1 hS1 => by
    obtain ⟨hP1, hK1, hD1⟩ := hB
    rw [ht] at hP1
    obtain ⟨a1, a2⟩ := kBack hP hD hA hS hC hR hnR hdis hN hnN hk1 hP1 hD1
    exact kk H1 locs1 a1 a2 hS1)
end KS
def XMl {S : Type} (l : Launch) (y : MethodName) (ws : List Cond) (rm : Room) (av : List Value) (D : va_G) (W : va_W) (W2 : S → va_W) (tys : List (ClassId × FieldType)) (r : Int64) : Prop :=
  ∀ sz : Nat, Met l y ws rm (va_Pc av (kB D W tys sz)) (va_Ql (fun x (_ : S) => x = r) (kEx D W2 tys (va_A W sz)) (va_A W sz)) 0 0 (va_A W sz)
theorem kXl {p : Program} {l : Launch} {e : Env} {R : Room} {s : State} {m : MethodId} {args : Array Value} {below : List Frame} {meth : Method} {c : Code} {H : Heap} {locs : List Loc} {cells slots : Nat} {cc : ByteArray} {pc : Nat} {ls : Array Slot} {D : va_G} {S : Type} {W2 : S → va_W} {tys : List (ClassId × FieldType)} {A : Nat → Prop} {u : S} (hx : p.tables.exec = Jvm.exec) (hb : c.code = cc) (hr : meth.sig.returnType = some .long) (hlocks : meth.locks = false) (hP : va_P D vwCl (W2 u) H) (hK : va_K D vwCl tys s) (hD : va_D A (W2 u)) (hS : va_S A s.heap H locs) {v r : Int64} (hd : decode cc pc = .ok (.lreturn, 1)) (h : v = r) :
    W p l e R s m args below meth c H locs cells slots (MQ below (va_Ql (fun x (_ : S) => x = r) (kEx D W2 tys A) A) args s cells slots A) (F0 m pc ls [.long v]) :=
  W.lret hx hb hr (fun t ht hW => ⟨⟨v, u, rfl, h, by rw [ht]; exact hP, va_K.moved hW.alike hK, hD⟩, hS.F ht⟩) hS.2.2 hd hlocks
