/-! Rows of calls over the whole world; constructors; methods with a table of handlers. -/
def GNv (l : Launch) (y : MethodName) (ws : List Cond) (rm : Room) (av : List Value) (D : va_G) (B : va_W) (tys : List (ClassId × FieldType)) (Q : va_W → Prop) (mc ms : Nat) : Prop :=
  ∀ sz : Nat, Met l y ws rm (va_Pc av (kB D B tys sz)) (va_Qv Q (kEx D (fun w : va_W => w) tys (va_A B sz)) (va_A B sz)) mc ms (va_A B sz)
theorem up_Nv {l : Launch} {y : MethodName} {ws : List Cond} {rm : Room} {av : List Value} {D : va_G} {W R B : va_W} {S : Type} {V2 C2 : S → va_W} {tys tysB : List (ClassId × FieldType)} {mc ms : Nat} {Q : va_W → Prop} (h : NMv l y ws rm av D W V2 tys mc ms) (hB : B.Perm (W ++ R)) (hs : ∀ q ∈ tys, q ∈ tysB) (hB2 : ∀ u, (C2 u).Perm (V2 u ++ R)) (hQ : ∀ u, Q (C2 u)) : GNv l y ws rm av D B tysB Q mc ms := fun sz =>
  Met_conv2 (h sz) (fun _ _ hp => ⟨hp.1, lift_pre hB hs hp.2⟩) (fun _ _ _ _ hp hW hq => by
    obtain ⟨⟨u, e1, _, h1⟩, hF⟩ := hq
    have := lift_post hB (hB2 u) hp.2 h1 (va_K.moved hW.alike hp.2.2.2.1) hF
    exact ⟨⟨C2 u, e1, hQ u, this⟩, vaF_mono hF (fun _ hq => vaA_perm hB hq)⟩) (fun _ hq => vaA_perm hB hq)
theorem vaFree0 {A : Nat → Prop} {B : va_W} {H0 H : Heap} {locs : List Loc} (hD : va_D A B) (hS : va_S A H0 H locs) (hA : ∀ q, H0.size ≤ q → A q) : ∀ q, va_A B H.size q → A q := by
  intro q h
  rcases h with ⟨k, e, h⟩ | h
  · exact hD.2 k _ h
  · exact hA q (Nat.le_trans hS.1 h)
theorem Met_of_vx {l : Launch} {y : MethodName} {ws : List Cond} {rm : Room} {Pc : Array Value → State → Prop} {Qc : Array Value → State → Outcome → State → Prop} {mc ms : Nat} {free : Addr → Prop} (h : vx_Met l y ws rm Pc Qc (fun _ _ _ => False) mc ms free) : Met l y ws rm Pc Qc mc ms free := by
  intro p e ha hc hk s m args below hfr happ hP hK
  obtain ⟨n, o, h1, h2, h3, h4⟩ := h p e ha hc hk s m args below hfr happ hP hK
  refine ⟨n, o, h1, h2, h3, ?_⟩
  rcases h4 with h4 | ⟨q, e1, E, ce, L, x1, _⟩
  · exact h4
  · exact x1.elim
section GC
variable {p : Program} {l : Launch} {e : Env} {R : Room} {s : State} {m : MethodId} {args : Array Value} {below : List Frame} {meth : Method} {c : Code} {H : Heap} {locs : List Loc} {cells slots : Nat} {Q : State → Prop}
variable {cc : ByteArray} {pc nL n index ci q0 N maxL mc ms : Nat} {ls : Array Slot} {rest As st : List Value} {D : va_G} {B : va_W} {tys : List (ClassId × FieldType)} {A : Nat → Prop} {H0 : Heap} {own C host : String} {y : MethodName} {wsC Ts : List Cond} {rmC : Room} {bytes : ByteArray} {ret : Option FieldType} {b : Nat} {fs : List Value} {T : u_T} {hh : List (Nat × Nat × Nat × Nat)} {E : String}
/-- a constructor of a nest mate -/
theorem gIN {Q' : va_W → Prop} (S0 : CallFix p m c cc nL s args Ts own) (hM : GNv l y wsC rmC (.ref b :: As) D B tys Q' mc ms) (cw : va_CN R s args own index y host bytes maxL none wsC rmC mc ms n ∧ y.name = "<init>" ∧ (Cond.instanceMethod y).before args s = true) (hP : va_P D vwCl B H) (hD : va_D A B) (hA : ∀ q, H0.size ≤ q → A q) (hS : va_S A H0 H locs) (hK : va_K D vwCl tys s) (hn : As.length = n) (hst : st = As.reverse ++ .ref b :: rest) (hsz : ls.size = nL) (hW : (rest.map fun v => v.category).sum ≤ 8) (hd : decode cc pc = .ok (.invokespecial index, 3)) (hf : cells + mc ≤ R.cells ∧ slots + ms ≤ R.slots)
    (kk : ∀ (B2 : va_W) (H1 : Heap) (locs1 : List Loc), Q' B2 → va_P D vwCl B2 H1 → va_D A B2 → va_S A H0 H1 locs1 → W p l e R s m args below meth c H1 locs1 (cells + mc) (slots + ms) Q (F0 m (pc + 3) ls rest)) : W p l e R s m args below meth c H locs cells slots Q (F0 m pc ls st) := by
  subst hst
  have hFc := vaFree0 hD hS hA
  exact va_callv (va_runIN (As := As) (rest := rest) S0 (hM H.size) cw ⟨kB.blind, fun U hU hW => ⟨rfl, by rw [hU], by rw [hU]; exact hP, va_K.moved hW.alike hK, hD.weaken (fun _ _ _ _ => trivial)⟩⟩ rfl hn hsz rfl (lv_room hW) hd hf) hS (fun q _ h => hFc q h) hFc (fun u t H1 locs1 ht hvm hw hB hz1 hk1 hS1 => by
    obtain ⟨hP1, hK1, hD1⟩ := hB
    rw [ht] at hP1
    exact kk u H1 locs1 hw hP1 (hD1.weaken (fun _ q _ hq => hFc _ hq)) hS1)
/-- a constructor of another class -/
theorem gI {Q' : va_W → Prop} (S0 : CallFix p m c cc nL s args Ts own) (hM : GNv l y wsC rmC (.ref b :: As) D B tys Q' mc ms) (cw : CallB R s args own index y bytes maxL none wsC rmC mc ms n ∧ y.name = "<init>" ∧ (Cond.instanceMethod y).before args s = true) (hP : va_P D vwCl B H) (hD : va_D A B) (hA : ∀ q, H0.size ≤ q → A q) (hS : va_S A H0 H locs) (hK : va_K D vwCl tys s) (hn : As.length = n) (hst : st = As.reverse ++ .ref b :: rest) (hsz : ls.size = nL) (hW : (rest.map fun v => v.category).sum ≤ 8) (hd : decode cc pc = .ok (.invokespecial index, 3)) (hf : cells + mc ≤ R.cells ∧ slots + ms ≤ R.slots)
    (kk : ∀ (B2 : va_W) (H1 : Heap) (locs1 : List Loc), Q' B2 → va_P D vwCl B2 H1 → va_D A B2 → va_S A H0 H1 locs1 → W p l e R s m args below meth c H1 locs1 (cells + mc) (slots + ms) Q (F0 m (pc + 3) ls rest)) : W p l e R s m args below meth c H locs cells slots Q (F0 m pc ls st) := by
  subst hst
  have hFc := vaFree0 hD hS hA
  exact va_callv (va_runI (As := As) (rest := rest) S0 (hM H.size) cw ⟨kB.blind, fun U hU hW => ⟨rfl, by rw [hU], by rw [hU]; exact hP, va_K.moved hW.alike hK, hD.weaken (fun _ _ _ _ => trivial)⟩⟩ rfl hn hsz rfl (lv_room hW) hd hf) hS (fun q _ h => hFc q h) hFc (fun u t H1 locs1 ht hvm hw hB hz1 hk1 hS1 => by
    obtain ⟨hP1, hK1, hD1⟩ := hB
    rw [ht] at hP1
    exact kk u H1 locs1 hw hP1 (hD1.weaken (fun _ q _ hq => hFc _ hq)) hS1)
theorem gVi {Q' : Int32 → va_W → Prop} (S0 : CallFix p m c cc nL s args Ts own) (hM : GMi l y wsC rmC (.ref b :: As) D B tys Q') (cw : CallW R s args own C index y bytes maxL ret wsC rmC 0 0 n) (hP : va_P D vwCl B H) (hD : va_D A B) (hA : ∀ q, H0.size ≤ q → A q) (hS : va_S A H0 H locs) (hK : va_K D vwCl tys s) (hc : vwCl[ci]? = some (C, T, N)) (he : B[q0]? = some (b, .inr (ci, fs))) (hn : As.length = n) (hst : st = As.reverse ++ .ref b :: rest) (hsz : ls.size = nL) (hW : (rest.map fun v => v.category).sum ≤ 8) (hd : decode cc pc = .ok (.invokevirtual index, 3)) (hf : cells + 0 ≤ R.cells ∧ slots + 0 ≤ R.slots)
    (kk : ∀ (r : Int32) (B2 : va_W) (H1 : Heap) (locs1 : List Loc), Q' r B2 → va_P D vwCl B2 H1 → va_D A B2 → va_S A H0 H1 locs1 → W p l e R s m args below meth c H1 locs1 cells slots Q (F0 m (pc + 3) ls (.int r :: rest))) : W p l e R s m args below meth c H locs cells slots Q (F0 m pc ls st) := by
  subst hst
  have hFc := vaFree0 hD hS hA
  exact va_calli (va_runV (As := As) (rest := rest) S0 (hM H.size) cw ⟨kB.blind, va_recv hK hP hc he, fun U hU hW => ⟨rfl, by rw [hU], by rw [hU]; exact hP, va_K.moved hW.alike hK, hD.weaken (fun _ _ _ _ => trivial)⟩⟩ rfl hn hsz rfl (lv_room hW) hd hf) hS (fun q _ h => hFc q h) hFc (fun x u t H1 locs1 ht hvm hw hB hz1 hk1 hS1 => by
    obtain ⟨hP1, hK1, hD1⟩ := hB
    rw [ht] at hP1
    exact kk x u H1 locs1 hw hP1 (hD1.weaken (fun _ q _ hq => hFc _ hq)) hS1)
theorem gVl {Q' : Int64 → va_W → Prop} (S0 : CallFix p m c cc nL s args Ts own) (hM : GMl l y wsC rmC (.ref b :: As) D B tys Q') (cw : CallW R s args own C index y bytes maxL ret wsC rmC 0 0 n) (hP : va_P D vwCl B H) (hD : va_D A B) (hA : ∀ q, H0.size ≤ q → A q) (hS : va_S A H0 H locs) (hK : va_K D vwCl tys s) (hc : vwCl[ci]? = some (C, T, N)) (he : B[q0]? = some (b, .inr (ci, fs))) (hn : As.length = n) (hst : st = As.reverse ++ .ref b :: rest) (hsz : ls.size = nL) (hW : (rest.map fun v => v.category).sum ≤ 8) (hd : decode cc pc = .ok (.invokevirtual index, 3)) (hf : cells + 0 ≤ R.cells ∧ slots + 0 ≤ R.slots)
    (kk : ∀ (r : Int64) (B2 : va_W) (H1 : Heap) (locs1 : List Loc), Q' r B2 → va_P D vwCl B2 H1 → va_D A B2 → va_S A H0 H1 locs1 → W p l e R s m args below meth c H1 locs1 cells slots Q (F0 m (pc + 3) ls (.long r :: rest))) : W p l e R s m args below meth c H locs cells slots Q (F0 m pc ls st) := by
  subst hst
  have hFc := vaFree0 hD hS hA
  exact va_calll (va_runV (As := As) (rest := rest) S0 (hM H.size) cw ⟨kB.blind, va_recv hK hP hc he, fun U hU hW => ⟨rfl, by rw [hU], by rw [hU]; exact hP, va_K.moved hW.alike hK, hD.weaken (fun _ _ _ _ => trivial)⟩⟩ rfl hn hsz rfl (lv_room hW) hd hf) hS (fun q _ h => hFc q h) hFc (fun x u t H1 locs1 ht hvm hw hB hz1 hk1 hS1 => by
    obtain ⟨hP1, hK1, hD1⟩ := hB
    rw [ht] at hP1
    exact kk x u H1 locs1 hw hP1 (hD1.weaken (fun _ q _ hq => hFc _ hq)) hS1)
theorem gVv {Q' : va_W → Prop} (S0 : CallFix p m c cc nL s args Ts own) (hM : GMv l y wsC rmC (.ref b :: As) D B tys Q') (cw : CallW R s args own C index y bytes maxL ret wsC rmC 0 0 n) (hP : va_P D vwCl B H) (hD : va_D A B) (hA : ∀ q, H0.size ≤ q → A q) (hS : va_S A H0 H locs) (hK : va_K D vwCl tys s) (hc : vwCl[ci]? = some (C, T, N)) (he : B[q0]? = some (b, .inr (ci, fs))) (hn : As.length = n) (hst : st = As.reverse ++ .ref b :: rest) (hsz : ls.size = nL) (hW : (rest.map fun v => v.category).sum ≤ 8) (hd : decode cc pc = .ok (.invokevirtual index, 3)) (hf : cells + 0 ≤ R.cells ∧ slots + 0 ≤ R.slots)
    (kk : ∀ (B2 : va_W) (H1 : Heap) (locs1 : List Loc), Q' B2 → va_P D vwCl B2 H1 → va_D A B2 → va_S A H0 H1 locs1 → W p l e R s m args below meth c H1 locs1 cells slots Q (F0 m (pc + 3) ls rest)) : W p l e R s m args below meth c H locs cells slots Q (F0 m pc ls st) := by
  subst hst
  have hFc := vaFree0 hD hS hA
  exact va_callv (va_runV (As := As) (rest := rest) S0 (hM H.size) cw ⟨kB.blind, va_recv hK hP hc he, fun U hU hW => ⟨rfl, by rw [hU], by rw [hU]; exact hP, va_K.moved hW.alike hK, hD.weaken (fun _ _ _ _ => trivial)⟩⟩ rfl hn hsz rfl (lv_room hW) hd hf) hS (fun q _ h => hFc q h) hFc (fun u t H1 locs1 ht hvm hw hB hz1 hk1 hS1 => by
    obtain ⟨hP1, hK1, hD1⟩ := hB
    rw [ht] at hP1
    exact kk u H1 locs1 hw hP1 (hD1.weaken (fun _ q _ hq => hFc _ hq)) hS1)
end GC
/-- constructors that make nothing -/
theorem tX0_init (l : Launch) (dC : Nat → ClassId) (dI : Nat → Nat → Nat) (b : Nat) (fs : List Value) : NMv l yX0_init wsX0_init { frames := 1, cells := 0, slots := 0, locals := 12 } [.ref b] (dC, dI) [(b, .inr (0, fs))] (fun (_ : Unit) => [(b, .inr (0, fs))]) [] 0 0 := by
  intro sz
  refine kOfN (cc := cX0_init) (maxL := 1) (ret := none) (by decide) rfl (Nat.le_of_ble_eq_true rfl) ?_
  intro p e s m below meth c hx hb hr hml hts hown hlocks hin hB ls hl
  obtain ⟨hsz, hP, hK, hD0⟩ := hB
  subst hsz
  have hD := hD0.self (sz := s.heap.size)
  generalize hAe : va_A [(b, .inr (0, fs))] s.heap.size = A at hD ⊢
  have hS : va_S A s.heap s.heap [] := va_S.rf
  have hl : lv_has ls 1 [(0, .ref b)] := hl
  refine lv_aload_n hx hb dX0_init_0 rfl (lv_at hl 0 rfl) ?_
  refine W.objInit hx hb hown (hts (.methodLink RX0 3 objectInit) (by decide +kernel)) (hts (.instanceMethod objectInit) (by decide +kernel)) (hts _ (List.mem_cons_of_mem _ (List.mem_of_getElem? (i := 2) rfl))) rfl (by rw [hml]; exact hl.1) rfl dX0_init_1 (Nat.le_of_ble_eq_true rfl) (Nat.le_of_ble_eq_true rfl) ?_
  refine W.eq (g2 := F0 m 4 ls []) rfl ?_
  exact kNv (u := ()) hx hb hr hlocks hP hK hD hS dX0_init_4
theorem tX2_init (l : Launch) (dC : Nat → ClassId) (dI : Nat → Nat → Nat) (b : Nat) (fs : List Value) : NMv l yX2_init wsX2_init { frames := 1, cells := 0, slots := 0, locals := 12 } [.ref b] (dC, dI) [(b, .inr (2, fs))] (fun (_ : Unit) => [(b, .inr (2, fs))]) [] 0 0 := by
  intro sz
  refine kOfN (cc := cX2_init) (maxL := 1) (ret := none) (by decide) rfl (Nat.le_of_ble_eq_true rfl) ?_
  intro p e s m below meth c hx hb hr hml hts hown hlocks hin hB ls hl
  obtain ⟨hsz, hP, hK, hD0⟩ := hB
  subst hsz
  have hD := hD0.self (sz := s.heap.size)
  generalize hAe : va_A [(b, .inr (2, fs))] s.heap.size = A at hD ⊢
  have hS : va_S A s.heap s.heap [] := va_S.rf
  have hl : lv_has ls 1 [(0, .ref b)] := hl
  refine lv_aload_n hx hb dX2_init_0 rfl (lv_at hl 0 rfl) ?_
  refine W.objInit hx hb hown (hts (.methodLink RX2 3 objectInit) (by decide +kernel)) (hts (.instanceMethod objectInit) (by decide +kernel)) (hts _ (List.mem_cons_of_mem _ (List.mem_of_getElem? (i := 2) rfl))) rfl (by rw [hml]; exact hl.1) rfl dX2_init_1 (Nat.le_of_ble_eq_true rfl) (Nat.le_of_ble_eq_true rfl) ?_
  refine W.eq (g2 := F0 m 4 ls []) rfl ?_
  exact kNv (u := ()) hx hb hr hlocks hP hK hD hS dX2_init_4
theorem tX3_init (l : Launch) (dC : Nat → ClassId) (dI : Nat → Nat → Nat) (b : Nat) (fs : List Value) : NMv l yX3_init wsX3_init { frames := 1, cells := 0, slots := 0, locals := 12 } [.ref b] (dC, dI) [(b, .inr (3, fs))] (fun (_ : Unit) => [(b, .inr (3, fs))]) [] 0 0 := by
  intro sz
  refine kOfN (cc := cX3_init) (maxL := 1) (ret := none) (by decide) rfl (Nat.le_of_ble_eq_true rfl) ?_
  intro p e s m below meth c hx hb hr hml hts hown hlocks hin hB ls hl
  obtain ⟨hsz, hP, hK, hD0⟩ := hB
  subst hsz
  have hD := hD0.self (sz := s.heap.size)
  generalize hAe : va_A [(b, .inr (3, fs))] s.heap.size = A at hD ⊢
  have hS : va_S A s.heap s.heap [] := va_S.rf
  have hl : lv_has ls 1 [(0, .ref b)] := hl
  refine lv_aload_n hx hb dX3_init_0 rfl (lv_at hl 0 rfl) ?_
  refine W.objInit hx hb hown (hts (.methodLink RX3 3 objectInit) (by decide +kernel)) (hts (.instanceMethod objectInit) (by decide +kernel)) (hts _ (List.mem_cons_of_mem _ (List.mem_of_getElem? (i := 2) rfl))) rfl (by rw [hml]; exact hl.1) rfl dX3_init_1 (Nat.le_of_ble_eq_true rfl) (Nat.le_of_ble_eq_true rfl) ?_
  refine W.eq (g2 := F0 m 4 ls []) rfl ?_
  exact kNv (u := ()) hx hb hr hlocks hP hK hD hS dX3_init_4
