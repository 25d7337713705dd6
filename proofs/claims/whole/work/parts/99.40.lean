/-! from the law's entry to its loop -/
theorem arrK {s : State} {args : Array Value} {ty : FieldType} (h : (Cond.arrayClass ty).before args s = true) : ∃ c : ClassId, ArrOfT s c ty ∧ s.vm.findClass ("[" ++ ty.toString) = some c := by
  obtain ⟨c, k, comp, h1, h2, h3⟩ := Cond.arrayClass_spec h
  exact ⟨c, fun N z => ⟨(fun k h => by cases h), k, h2, comp, h3⟩, h1⟩
theorem arrO {s : State} {C : String} (h : va_AO C s) : ∃ c : ClassId, ArrOfT s c (.object C) ∧ va_RA s c (.object C) := by
  obtain ⟨comp, c, k, h1, h2, h3, h4, h5⟩ := Cond.arrayOver_spec h
  exact ⟨c, fun N z => ⟨(fun k h => by cases h), k, h3, comp, h4⟩, k, comp, h3, h4, h1, h5⟩
theorem tBad_in : ∀ w ∈ tBad, w ∈ lw_tbl := mem_r _ [254, 338, 360, 256, 258, 260] (by decide +kernel)
theorem tTx_in : ∀ q ∈ tTx, Cond.stringRef RX4 q.1 q.2 ∈ lw_tbl := by decide +kernel
theorem tTx_ex : ∀ q ∈ tTx, Cond.exactly (.string RX4 q.1) "java/lang/String" ∈ flatC (Jvm.Cond.and given_1 narrow_1) := by decide +kernel
theorem nS.warm {s U : State} (hW : s.WarmedH U.vm) (h : nS s) : nS U :=
  ⟨⟨va_Nw.warmM hW h.1.1, va_Nw.warmM hW h.1.2.1, va_Nw.warmM hW h.1.2.2.1, va_Nw.warmM hW h.1.2.2.2⟩, h.2.1.moved hW.alike, h.2.2.1.moved hW.alike, h.2.2.2.moved hW.alike⟩
theorem nS.blind {U : State} {g : JFrame} {mk : MethodId} {a : Array Value} (h : nS U) : nS (U.calling g mk a) :=
  ⟨⟨va_Nw.same (u := U) rfl rfl h.1.1, va_Nw.same (u := U) rfl rfl h.1.2.1, va_Nw.same (u := U) rfl rfl h.1.2.2.1, va_Nw.same (u := U) rfl rfl h.1.2.2.2⟩, va_AO.moved (u := U) (U := U.calling g mk a) (Vm.Alike.refl U.vm) h.2.1, va_AO.moved (u := U) (U := U.calling g mk a) (Vm.Alike.refl U.vm) h.2.2.1, va_AO.moved (u := U) (U := U.calling g mk a) (Vm.Alike.refl U.vm) h.2.2.2⟩
section GB
variable {p : Program} {l : Launch} {e : Env} {R : Room} {s : State} {m : MethodId} {args : Array Value} {below : List Frame} {meth : Method} {c : Code} {H : Heap} {locs : List Loc} {cells slots : Nat} {Q : State → Prop}
variable {cc : ByteArray} {pc nL n index maxL mc ms : Nat} {ls : Array Slot} {rest As st : List Value} {D : va_G} {B : va_W} {tys : List (ClassId × FieldType)} {A : Nat → Prop} {H0 : Heap} {own : String} {y : MethodName} {wsC Ts : List Cond} {rmC : Room} {bytes : ByteArray} {b : Nat}
theorem gIB {Q' : va_W → Prop} (S0 : CallFix p m c cc nL s args Ts own) (hM : ∀ sz : Nat, Met l y wsC rmC (va_Pc (.ref b :: As) (kBN D B tys sz)) (va_Qv Q' (kEx D (fun w : va_W => w) tys (va_A B sz)) (va_A B sz)) mc ms (va_A B sz)) (cw : CallB R s args own index y bytes maxL none wsC rmC mc ms n ∧ y.name = "<init>" ∧ (Cond.instanceMethod y).before args s = true) (hN : ∀ U : State, s.WarmedH U.vm → nS U) (hP : va_P D vwCl B H) (hD : va_D A B) (hA : ∀ q, H0.size ≤ q → A q) (hS : va_S A H0 H locs) (hK : va_K D vwCl tys s) (hn : As.length = n) (hst : st = As.reverse ++ .ref b :: rest) (hsz : ls.size = nL) (hW : (rest.map fun v => v.category).sum ≤ 8) (hd : decode cc pc = .ok (.invokespecial index, 3)) (hf : cells + mc ≤ R.cells ∧ slots + ms ≤ R.slots)
    (kk : ∀ (B2 : va_W) (H1 : Heap) (locs1 : List Loc), Q' B2 → va_P D vwCl B2 H1 → va_D A B2 → va_S A H0 H1 locs1 → W p l e R s m args below meth c H1 locs1 (cells + mc) (slots + ms) Q (F0 m (pc + 3) ls rest)) : W p l e R s m args below meth c H locs cells slots Q (F0 m pc ls st) := by
  subst hst
  have hFc := vaFree0 hD hS hA
  exact va_callv (va_runI (As := As) (rest := rest) S0 (hM H.size) cw ⟨fun a U g mk q => ⟨q.1, (kB.blind (av := .ref b :: As) a U g mk ⟨q.1, q.2.1⟩).2, q.2.2.blind⟩, fun U hU hW => ⟨rfl, ⟨by rw [hU], by rw [hU]; exact hP, va_K.moved hW.alike hK, hD.weaken (fun _ _ _ _ => trivial)⟩, hN U hW⟩⟩ rfl hn hsz rfl (lv_room hW) hd hf) hS (fun q _ h => hFc q h) hFc (fun u t H1 locs1 ht hvm hw hB hz1 hk1 hS1 => by
    obtain ⟨hP1, hK1, hD1⟩ := hB
    rw [ht] at hP1
    exact kk u H1 locs1 hw hP1 (hD1.weaken (fun _ q _ hq => hFc _ hq)) hS1)
end GB
theorem fsX4 : ∀ j, j < 10 → defaultValue (tyX4 j) = vp_V [.null, .int (nI 0), .null, .int (nI 0), .null, .null, .null, .int (nI 0), .null, .null] j := fun j hj => match j, hj with
  | 0, _ => rfl
  | 1, _ => rfl
  | 2, _ => rfl
  | 3, _ => rfl
  | 4, _ => rfl
  | 5, _ => rfl
  | 6, _ => rfl
  | 7, _ => rfl
  | 8, _ => rfl
  | 9, _ => rfl
  | n + 10, h => absurd h (by omega)
theorem fsX5 : ∀ j, j < 25 → defaultValue (tyX5 j) = vp_V [.int (nI 0), .int (nI 0), .null, .null, .null, .int (nI 0), .null, .null, .null, .null, .null, .int (nI 0), .null, .int (nI 0), .null, .null, .long 0, .long 0, .null, .null, .int (nI 0), .long 0, .long 0, .long 0, .long 0] j := fun j hj => match j, hj with
  | 0, _ => rfl
  | 1, _ => rfl
  | 2, _ => rfl
  | 3, _ => rfl
  | 4, _ => rfl
  | 5, _ => rfl
  | 6, _ => rfl
  | 7, _ => rfl
  | 8, _ => rfl
  | 9, _ => rfl
  | 10, _ => rfl
  | 11, _ => rfl
  | 12, _ => rfl
  | 13, _ => rfl
  | 14, _ => rfl
  | 15, _ => rfl
  | 16, _ => rfl
  | 17, _ => rfl
  | 18, _ => rfl
  | 19, _ => rfl
  | 20, _ => rfl
  | 21, _ => rfl
  | 22, _ => rfl
  | 23, _ => rfl
  | 24, _ => rfl
  | n + 25, h => absurd h (by omega)
theorem RC_new : RC (0, 0, 0, (fun _ => (0, 0, 0)), (fun _ => (fun _ => 0, fun _ => 0, fun _ => 0, fun _ => 0)), (fun _ => (0, 0, 0, 0, 0, 0)), (fillTo (fun _ => nI 0) (nI 0) 24), (-100, -100, -92, -92, 0, 0), (0, 0, 0, 0, 0, 0), (0, 0, 0, 0, false), (fun _ => (0, 0, 0, some 0, 0, 0))) (0, (fun _ => 0), (fun _ => 0), (fun _ => 0), 0, (fun _ => 0), (fun _ => 0), (zeroTo (fun _ => false) 576), (plNew (fun _ => 0)), (fun _ => 0), 0) := by
  refine ⟨⟨rfl, rfl, rfl⟩, ⟨Nat.zero_le _, Nat.zero_le _, Nat.zero_le _⟩, fun s hs => absurd hs (Nat.not_lt_zero s), fun s hs => absurd hs (Nat.not_lt_zero s), ?_, ⟨⟨rfl, rfl, (show (-92 : Int64) = -100 + 8 by decide), (show (-92 : Int64) = -100 + 8 by decide)⟩, new_pOK _, ?_⟩, fun s hs => absurd hs (Nat.not_lt_zero s)⟩
  · intro i j hi hj
    show sBit (fillTo (fun _ => nI 0) (nI 0) 24 j) i = zeroTo (fun _ => false) 576 (24 * j + i)
    rw [fill_bit _ hi hj, zero_sol _ (by omega)]
  · intro t ht h1
    have := zero_sol (fun _ => false) ht
    dsimp only at h1
    rw [this] at h1
    exact absurd h1 (by decide)
set_option maxHeartbeats 4000000 in
set_option maxRecDepth 100000 in
theorem whole_start {p : Program} {e : Env} {s : State} {m : MethodId} {below : List Frame} {meth : Method} {c : Code} (l : Launch) (hst : l.stackTraces = false) {b L : Nat} {xs : Nat → Int32} (hL : L ≤ 4608) (C0 : lw_At p s m meth c b L xs) : W p l e room_1 s m #[Value.ref b] below meth c s.heap [] 0 0 (lw_Z below #[Value.ref b] s) (entryFrame m ([Value.ref b] : List Value).toArray 8) := by
  obtain ⟨hx, hb, hr, hml, hown, hts, hX, hbl, hlocks, hgv⟩ := id C0
  have hA : ∀ q : Nat, s.heap.size ≤ q → (fun q : Nat => s.heap.size ≤ q) q := fun _ h => h
  have hA2 : ∀ a : Nat, a < s.heap.size → ¬ (fun q : Nat => s.heap.size ≤ q) a := fun a h => Nat.not_le.mpr h
  have htl : ∀ w ∈ wsL_law, w.before #[Value.ref b] s = true := fun w h => hts w (wsL_law_in w h)
  have hs0 := flat_of_before _ hgv
  obtain ⟨c0, i0, hk0⟩ := u_known (C := RX0) (T := TX0) (N := 6) (n := 6) hts inX0 (hts (.instantiable RX0 6) (by decide +kernel))
  obtain ⟨c1, i1, hk1⟩ := u_known (C := RX1) (T := TX1) (N := 7) (n := 7) hts inX1 (hts (.instantiable RX1 7) (by decide +kernel))
  obtain ⟨c2, i2, hk2⟩ := u_known (C := RX2) (T := TX2) (N := 5) (n := 5) hts inX2 (hts (.instantiable RX2 5) (by decide +kernel))
  obtain ⟨c3, i3, hk3⟩ := u_known (C := RX3) (T := TX3) (N := 6) (n := 6) hts inX3 (hts (.instantiable RX3 6) (by decide +kernel))
  obtain ⟨c4, i4, hk4⟩ := u_known (C := RX4) (T := TX4) (N := 10) (n := 10) hts inX4 (hts (.instantiable RX4 10) (by decide +kernel))
  obtain ⟨c5, i5, hk5⟩ := u_known (C := RX5) (T := TX5) (N := 25) (n := 25) hts inX5 (hts (.instantiable RX5 25) (by decide +kernel))
  obtain ⟨dC, dI, hKc⟩ : ∃ (dC : Nat → ClassId) (dI : Nat → Nat → Nat), ∀ (k : Nat) (q : vw_C), vwCl[k]? = some q → u_Kn s q.1 q.2.1 q.2.2 (dC k) (dI k) := by
    refine ⟨fun k => match k with | 0 => c0 | 1 => c1 | 2 => c2 | 3 => c3 | 4 => c4 | _ => c5, fun k => match k with | 0 => i0 | 1 => i1 | 2 => i2 | 3 => i3 | 4 => i4 | _ => i5, ?_⟩
    intro k q hq
    match k, hq with
    | 0, hq => cases hq; exact hk0
    | 1, hq => cases hq; exact hk1
    | 2, hq => cases hq; exact hk2
    | 3, hq => cases hq; exact hk3
    | 4, hq => cases hq; exact hk4
    | 5, hq => cases hq; exact hk5
    | k + 6, hq => simp [vwCl] at hq
  have aoH : va_AO RX1 s := va_AO.of (hts (.arrayOver (.object RX1)) (by decide +kernel))
  have aoB : va_AO RX0 s := va_AO.of (hts (.arrayOver (.object RX0)) (by decide +kernel))
  have aoT : va_AO RX3 s := va_AO.of (hts (.arrayOver (.object RX3)) (by decide +kernel))
  obtain ⟨cJ, hJ⟩ := arrK (hts (.arrayClass .long) (by decide +kernel))
  obtain ⟨cI, hI⟩ := arrK (hts (.arrayClass .int) (by decide +kernel))
  obtain ⟨cZ, hZ⟩ := arrK (hts (.arrayClass .boolean) (by decide +kernel))
  obtain ⟨cH, hH⟩ := arrO aoH
  obtain ⟨cB, hB⟩ := arrO aoB
  obtain ⟨cT, hTr⟩ := arrO aoT
  have hK : va_K (dC, dI) vwCl (tysL cJ cI cZ cH cB cT) s := by
    refine ⟨hKc, fun k q hq => ?_⟩
    match k, hq with
    | 0, hq => cases hq; exact hJ
    | 1, hq => cases hq; exact hI
    | 2, hq => cases hq; exact hZ
    | 3, hq => cases hq; exact hH
    | 4, hq => cases hq; exact hB
    | 5, hq => cases hq; exact hTr
    | k + 6, hq => simp [tysL] at hq
  have hN : nS s := ⟨⟨va_tabs (by rfl) rfl (hts (.methodLinkNest "SweptBoxes" 25 yX0_init "SweptBoxes") (by decide +kernel)), va_tabs (by rfl) rfl (hts (.methodLinkNest "SweptBoxes" 41 yX2_init "SweptBoxes") (by decide +kernel)), va_tabs (by rfl) rfl (hts (.methodLinkNest "SweptBoxes" 46 yX1_init "SweptBoxes") (by decide +kernel)), va_tabs (by rfl) rfl (hts (.methodLinkNest "SweptBoxes" 47 yX3_init "SweptBoxes") (by decide +kernel))⟩, aoH, aoB, aoT⟩
  have hT : tS (fun q : Nat => s.heap.size ≤ q) s := by
    refine ⟨vx_Zqof (hts (.laysStatic Bundle.tN "UNASSIGNED_STACK" Bundle.steD) (by decide +kernel)) (hts (.initialized Bundle.tN) (by decide +kernel)) (hs0 _ (by decide +kernel)) hA2, vx_Zqof (hts (.laysStatic Bundle.tN "SUPPRESSED_SENTINEL" Bundle.listD) (by decide +kernel)) (hts (.initialized Bundle.tN) (by decide +kernel)) (hs0 _ (by decide +kernel)) hA2, fun q hq => ?_, fun w hw => va_tabs (tBadO w hw) rfl (hts w (tBad_in w hw))⟩
    have hex : ∀ q ∈ tTx, (Cond.exactly (.string RX4 q.1) "java/lang/String").before #[Value.ref b] s = true := fun q hq => hs0 _ (tTx_ex q hq)
    obtain ⟨a, c9, cell, k9, h1, _⟩ := Cond.exactly_spec (hex q hq)
    exact ⟨a, vk_R.of (hts _ (tTx_in q hq)) h1⟩
  have hnc : ncS s := ⟨va_Nc.of (hs0 (.not (.castable "java/lang/IllegalStateException" "java/lang/IndexOutOfBoundsException")) (by decide +kernel)), va_Nc.of (hs0 (.not (.castable "java/lang/IllegalArgumentException" "java/lang/IndexOutOfBoundsException")) (by decide +kernel)), va_Nc.of (hs0 (.not (.castable "java/lang/IllegalArgumentException" "java/lang/IllegalStateException")) (by decide +kernel))⟩
  have hS : va_S (fun q : Nat => s.heap.size ≤ q) s.heap s.heap [] := va_S.rf
  have hP : va_P (dC, dI) vwCl [] s.heap := fun k q h => by simp at h
  have hD : va_D (fun q : Nat => s.heap.size ≤ q) [] := ⟨fun i j p q h => by simp at h, fun k q h => by simp at h⟩
  have hl := lv_entry ([.ref b]) (n := 8) (Nat.le_of_ble_eq_true rfl)
  rw [lg_entry_eq]
  generalize (lg_sl ([.ref b]) ++ List.replicate (8 - (lg_sl ([.ref b])).length) Slot.unset).toArray = ls at hl ⊢
  have hl : lv_has ls 8 [(0, .ref b)] := hl
  refine va_new (own := RL) (C := RX4) (T := TX4) (N := 10) (ci := 4) (fs := [.null, .int (nI 0), .null, .int (nI 0), .null, .null, .null, .int (nI 0), .null, .null]) hx hb hts inX4 tyX4 tyX4_ok hown (hts (.classLink RL 8 RX4) (by decide +kernel)) (hts (.instantiable RX4 10) (by decide +kernel)) (hts (.initialized RX4) (by decide +kernel)) hK hP hD hS hA rfl fsX4 (Nat.le_of_ble_eq_true rfl) (Nat.le_of_ble_eq_true rfl) dL_law_0 (fun ob H hP hD hS => ?_)
  have hP : va_P (dC, dI) vwCl [(ob, .inr (4, [.null, .int (nI 0), .null, .int (nI 0), .null, .null, .null, .int (nI 0), .null, .null]))] H := hP
  have hD : va_D (fun q : Nat => s.heap.size ≤ q) [(ob, .inr (4, [.null, .int (nI 0), .null, .int (nI 0), .null, .null, .null, .int (nI 0), .null, .null]))] := hD
  refine lv_dup hx hb dL_law_3 rfl ?_
  refine gIB (As := []) (rest := [.ref ob]) ⟨hx, hb, hml, hown, htl⟩ (tX4_init l dC dI cJ cI cH cB cT ob) (cwI 0 htl gL_law_X4_init rfl rfl rfl (hts (.initialized RX4) (by decide +kernel)) (hts (.methodLink RL 68 yX4_init) (by decide +kernel)) (hts (.instanceMethod yX4_init) (by decide +kernel)) rfl (by decide +kernel) ⟨Nat.le_of_ble_eq_true rfl, Nat.le_of_ble_eq_true rfl⟩) (fun U hW => hN.warm hW) hP hD hA hS (hK.sub [3, 4, 5, 1, 0] rfl) rfl rfl hl.1 (Nat.le_of_ble_eq_true rfl) dL_law_4 ⟨Nat.le_of_ble_eq_true rfl, Nat.le_of_ble_eq_true rfl⟩ (fun B2 H locs hq hP hD hS => ?_)
  obtain ⟨ahl, abl, asr, pb, atr, tb, mt, fhl, fbl, ftr, hA_, bA_, tA_, rfl, hlk⟩ := hq
  refine lv_astore_n (lv' := [(1, .ref ob), (0, .ref b)]) hx hb dL_law_7 rfl hl (by decide) rfl (fun ls hl => ?_)
  refine va_new (own := RL) (C := RX5) (T := TX5) (N := 25) (ci := 5) (fs := [.int (nI 0), .int (nI 0), .null, .null, .null, .int (nI 0), .null, .null, .null, .null, .null, .int (nI 0), .null, .int (nI 0), .null, .null, .long 0, .long 0, .null, .null, .int (nI 0), .long 0, .long 0, .long 0, .long 0]) hx hb hts inX5 tyX5 tyX5_ok hown (hts (.classLink RL 69 RX5) (by decide +kernel)) (hts (.instantiable RX5 25) (by decide +kernel)) (hts (.initialized RX5) (by decide +kernel)) hK hP hD hS hA rfl fsX5 (Nat.le_of_ble_eq_true rfl) (Nat.le_of_ble_eq_true rfl) dL_law_8 (fun om H hP hD hS => ?_)
  refine lv_dup hx hb dL_law_11 rfl ?_
  refine gI (As := []) (rest := [.ref om]) ⟨hx, hb, hml, hown, htl⟩ (up_Nv (B := (cWd cJ cI cH cB cT ob ahl abl asr pb atr tb mt fhl fbl ftr hA_ bA_ tA_ 0 0 0 (fun _ => (0, 0, 0)) (fun _ => (fun _ => 0, fun _ => 0, fun _ => 0, fun _ => 0)) (fun _ => (0, 0, 0, 0, 0, 0)) (fillTo (fun _ => nI 0) (nI 0) 24) (-100, -100, -92, -92, 0, 0) (0, 0, 0, 0, 0, 0) (0, 0, 0, 0, false) (fun _ => (0, 0, 0, some 0, 0, 0))) ++ [(om, .inr (5, [.int (nI 0), .int (nI 0), .null, .null, .null, .int (nI 0), .null, .null, .null, .null, .null, .int (nI 0), .null, .int (nI 0), .null, .null, .long 0, .long 0, .null, .null, .int (nI 0), .long 0, .long 0, .long 0, .long 0]))]) (R := (cWd cJ cI cH cB cT ob ahl abl asr pb atr tb mt fhl fbl ftr hA_ bA_ tA_ 0 0 0 (fun _ => (0, 0, 0)) (fun _ => (fun _ => 0, fun _ => 0, fun _ => 0, fun _ => 0)) (fun _ => (0, 0, 0, 0, 0, 0)) (fillTo (fun _ => nI 0) (nI 0) 24) (-100, -100, -92, -92, 0, 0) (0, 0, 0, 0, 0, 0) (0, 0, 0, 0, false) (fun _ => (0, 0, 0, some 0, 0, 0)))) (C2 := fun u => [(om, .inr (5, [.int (nI 0), .int (nI 0), .ref u.1, .ref u.2.1, .ref u.2.2.1, .int (nI 0), .ref u.2.2.2.1, .ref u.2.2.2.2.1, .ref u.2.2.2.2.2.1, .ref u.2.2.2.2.2.2.1, .ref u.2.2.2.2.2.2.2.1, .int (nI 0), .ref u.2.2.2.2.2.2.2.2.1, .int (nI 0), .ref u.2.2.2.2.2.2.2.2.2.1, .ref u.2.2.2.2.2.2.2.2.2.2.1, .long 0, .long 0, .ref u.2.2.2.2.2.2.2.2.2.2.2.1, .ref u.2.2.2.2.2.2.2.2.2.2.2.2, .int (nI 0), .long 0, .long 0, .long 0, .long 0])), (u.1, .inl (cJ, 256, .inr (.inl (fun _ => 0)))), (u.2.1, .inl (cJ, 256, .inr (.inl (fun _ => 0)))), (u.2.2.1, .inl (cI, 16, .inl (nF (fun _ => 0)))), (u.2.2.2.1, .inl (cJ, 64, .inr (.inl (fun _ => 0)))), (u.2.2.2.2.1, .inl (cJ, 32, .inr (.inl (fun _ => 0)))), (u.2.2.2.2.2.1, .inl (cZ, 576, .inl (bF (zeroTo (fun _ => false) 576)))), (u.2.2.2.2.2.2.1, .inl (cJ, 4, .inr (.inl (plNew (fun _ => 0))))), (u.2.2.2.2.2.2.2.1, .inl (cJ, 48, .inr (.inl (fun _ => 0)))), (u.2.2.2.2.2.2.2.2.1, .inl (cI, 16, .inl (nF (fun _ => 0)))), (u.2.2.2.2.2.2.2.2.2.1, .inl (cJ, 4, .inr (.inl (fun _ => 0)))), (u.2.2.2.2.2.2.2.2.2.2.1, .inl (cJ, 4, .inr (.inl (fun _ => 0)))), (u.2.2.2.2.2.2.2.2.2.2.2.1, .inl (cJ, 12, .inr (.inl (fun _ => 0)))), (u.2.2.2.2.2.2.2.2.2.2.2.2, .inl (cJ, 12, .inr (.inl (fun _ => 0))))] ++ (cWd cJ cI cH cB cT ob ahl abl asr pb atr tb mt fhl fbl ftr hA_ bA_ tA_ 0 0 0 (fun _ => (0, 0, 0)) (fun _ => (fun _ => 0, fun _ => 0, fun _ => 0, fun _ => 0)) (fun _ => (0, 0, 0, 0, 0, 0)) (fillTo (fun _ => nI 0) (nI 0) 24) (-100, -100, -92, -92, 0, 0) (0, 0, 0, 0, 0, 0) (0, 0, 0, 0, false) (fun _ => (0, 0, 0, some 0, 0, 0)))) (Q := fun w => ∃ u : Nat × Nat × Nat × Nat × Nat × Nat × Nat × Nat × Nat × Nat × Nat × Nat × Nat, w = [(om, .inr (5, [.int (nI 0), .int (nI 0), .ref u.1, .ref u.2.1, .ref u.2.2.1, .int (nI 0), .ref u.2.2.2.1, .ref u.2.2.2.2.1, .ref u.2.2.2.2.2.1, .ref u.2.2.2.2.2.2.1, .ref u.2.2.2.2.2.2.2.1, .int (nI 0), .ref u.2.2.2.2.2.2.2.2.1, .int (nI 0), .ref u.2.2.2.2.2.2.2.2.2.1, .ref u.2.2.2.2.2.2.2.2.2.2.1, .long 0, .long 0, .ref u.2.2.2.2.2.2.2.2.2.2.2.1, .ref u.2.2.2.2.2.2.2.2.2.2.2.2, .int (nI 0), .long 0, .long 0, .long 0, .long 0])), (u.1, .inl (cJ, 256, .inr (.inl (fun _ => 0)))), (u.2.1, .inl (cJ, 256, .inr (.inl (fun _ => 0)))), (u.2.2.1, .inl (cI, 16, .inl (nF (fun _ => 0)))), (u.2.2.2.1, .inl (cJ, 64, .inr (.inl (fun _ => 0)))), (u.2.2.2.2.1, .inl (cJ, 32, .inr (.inl (fun _ => 0)))), (u.2.2.2.2.2.1, .inl (cZ, 576, .inl (bF (zeroTo (fun _ => false) 576)))), (u.2.2.2.2.2.2.1, .inl (cJ, 4, .inr (.inl (plNew (fun _ => 0))))), (u.2.2.2.2.2.2.2.1, .inl (cJ, 48, .inr (.inl (fun _ => 0)))), (u.2.2.2.2.2.2.2.2.1, .inl (cI, 16, .inl (nF (fun _ => 0)))), (u.2.2.2.2.2.2.2.2.2.1, .inl (cJ, 4, .inr (.inl (fun _ => 0)))), (u.2.2.2.2.2.2.2.2.2.2.1, .inl (cJ, 4, .inr (.inl (fun _ => 0)))), (u.2.2.2.2.2.2.2.2.2.2.2.1, .inl (cJ, 12, .inr (.inl (fun _ => 0)))), (u.2.2.2.2.2.2.2.2.2.2.2.2, .inl (cJ, 12, .inr (.inl (fun _ => 0))))] ++ (cWd cJ cI cH cB cT ob ahl abl asr pb atr tb mt fhl fbl ftr hA_ bA_ tA_ 0 0 0 (fun _ => (0, 0, 0)) (fun _ => (fun _ => 0, fun _ => 0, fun _ => 0, fun _ => 0)) (fun _ => (0, 0, 0, 0, 0, 0)) (fillTo (fun _ => nI 0) (nI 0) 24) (-100, -100, -92, -92, 0, 0) (0, 0, 0, 0, 0, 0) (0, 0, 0, 0, false) (fun _ => (0, 0, 0, some 0, 0, 0)))) (tX5_init l dC dI cJ cI cZ om) List.perm_append_comm sub5 (fun u => List.Perm.refl _) (fun u => ⟨u, rfl⟩)) (cwI 0 htl gL_law_X5_init rfl rfl rfl (hts (.initialized RX5) (by decide +kernel)) (hts (.methodLink RL 71 yX5_init) (by decide +kernel)) (hts (.instanceMethod yX5_init) (by decide +kernel)) rfl (by decide +kernel) ⟨Nat.le_of_ble_eq_true rfl, Nat.le_of_ble_eq_true rfl⟩) hP hD hA hS hK rfl rfl hl.1 (Nat.le_of_ble_eq_true rfl) dL_law_12 ⟨Nat.le_of_ble_eq_true rfl, Nat.le_of_ble_eq_true rfl⟩ (fun B2 H locs hq hP hD hS => ?_)
  obtain ⟨⟨apx, apy, act, asd, amv, asl, apl, asw, aor, aon, atw, aup, alw⟩, rfl⟩ := hq
  refine lv_astore_n (lv' := [(2, .ref om), (1, .ref ob), (0, .ref b)]) hx hb dL_law_15 rfl hl (by decide) rfl (fun ls hl => ?_)
  refine lv_iconst (v := (nI 1)) hx hb dL_law_16 (by decide) ?_
  refine kNewa (atype := .long) (ty := .long) (t0 := 0) (nn := (nI 1)) (N' := 1) (a0 := (1, .inr (.inl (fun _ => 0)))) hx hb (hts (.arrayClass .long) (by decide +kernel)) rfl rfl (fun k a b => Option.some.inj (b.symm.trans a)) hK hP hD hS hA (fun _ => rfl) (by decide +kernel) (by decide +kernel) (by decide +kernel) (Nat.le_of_ble_eq_true rfl) (Nat.le_of_ble_eq_true rfl) dL_law_17 (fun out H hP hD hS => ?_)
  refine lv_astore_n (lv' := [(3, .ref out), (2, .ref om), (1, .ref ob), (0, .ref b)]) hx hb dL_law_19 rfl hl (by decide) rfl (fun ls hl => ?_)
  refine lv_iconst (v := (nI 0)) hx hb dL_law_20 (by decide) ?_
  refine lv_istore (lv' := [(4, .int (nI 0)), (3, .ref out), (2, .ref om), (1, .ref ob), (0, .ref b)]) hx hb dL_law_21 hl (by decide) rfl (fun ls hl => ?_)
  have hpm : (((([(om, .inr (5, [.int (nI 0), .int (nI 0), .ref apx, .ref apy, .ref act, .int (nI 0), .ref asd, .ref amv, .ref asl, .ref apl, .ref asw, .int (nI 0), .ref aor, .int (nI 0), .ref aon, .ref atw, .long 0, .long 0, .ref aup, .ref alw, .int (nI 0), .long 0, .long 0, .long 0, .long 0])), (apx, .inl (cJ, 256, .inr (.inl (fun _ => 0)))), (apy, .inl (cJ, 256, .inr (.inl (fun _ => 0)))), (act, .inl (cI, 16, .inl (nF (fun _ => 0)))), (asd, .inl (cJ, 64, .inr (.inl (fun _ => 0)))), (amv, .inl (cJ, 32, .inr (.inl (fun _ => 0)))), (asl, .inl (cZ, 576, .inl (bF (zeroTo (fun _ => false) 576)))), (apl, .inl (cJ, 4, .inr (.inl (plNew (fun _ => 0))))), (asw, .inl (cJ, 48, .inr (.inl (fun _ => 0)))), (aor, .inl (cI, 16, .inl (nF (fun _ => 0)))), (aon, .inl (cJ, 4, .inr (.inl (fun _ => 0)))), (atw, .inl (cJ, 4, .inr (.inl (fun _ => 0)))), (aup, .inl (cJ, 12, .inr (.inl (fun _ => 0)))), (alw, .inl (cJ, 12, .inr (.inl (fun _ => 0))))] : va_W) ++ (cWd cJ cI cH cB cT ob ahl abl asr pb atr tb mt fhl fbl ftr hA_ bA_ tA_ 0 0 0 (fun _ => (0, 0, 0)) (fun _ => (fun _ => 0, fun _ => 0, fun _ => 0, fun _ => 0)) (fun _ => (0, 0, 0, 0, 0, 0)) (fillTo (fun _ => nI 0) (nI 0) 24) (-100, -100, -92, -92, 0, 0) (0, 0, 0, 0, 0, 0) (0, 0, 0, 0, false) (fun _ => (0, 0, 0, some 0, 0, 0)))) ++ ([(out, .inl (cJ, 1, .inr (.inl (fun _ => 0))))] : va_W)) : va_W).Perm (LWd cJ cI cZ cH cB cT out ob om ahl abl asr pb atr tb mt fhl fbl ftr hA_ bA_ tA_ apx apy act asd amv asl apl asw aor aon atw aup alw (fun _ => 0) (0, 0, 0, (fun _ => (0, 0, 0)), (fun _ => (fun _ => 0, fun _ => 0, fun _ => 0, fun _ => 0)), (fun _ => (0, 0, 0, 0, 0, 0)), (fillTo (fun _ => nI 0) (nI 0) 24), (-100, -100, -92, -92, 0, 0), (0, 0, 0, 0, 0, 0), (0, 0, 0, 0, false), (fun _ => (0, 0, 0, some 0, 0, 0))) 0 (0, (fun _ => 0), (fun _ => 0), (fun _ => 0), 0, (fun _ => 0), (fun _ => 0), (zeroTo (fun _ => false) 576), (plNew (fun _ => 0)), (fun _ => 0), 0) (0, (fun _ => 0), (fun _ => 0), (fun _ => 0), 0, 0, (fun _ => 0), (fun _ => 0), 0, 0, 0, 0, 0)) := cat_by2 26 [25, 14, 0, 15, 16, 17, 18, 19, 20, 21, 22, 23, 24, 1, 2, 3, 4, 5, 6, 7, 8, 9, 10, 11, 12, 13] (l := [[(om, .inr (5, [.int (nI 0), .int (nI 0), .ref apx, .ref apy, .ref act, .int (nI 0), .ref asd, .ref amv, .ref asl, .ref apl, .ref asw, .int (nI 0), .ref aor, .int (nI 0), .ref aon, .ref atw, .long 0, .long 0, .ref aup, .ref alw, .int (nI 0), .long 0, .long 0, .long 0, .long 0]))], [(apx, .inl (cJ, 256, .inr (.inl (fun _ => 0))))], [(apy, .inl (cJ, 256, .inr (.inl (fun _ => 0))))], [(act, .inl (cI, 16, .inl (nF (fun _ => 0))))], [(asd, .inl (cJ, 64, .inr (.inl (fun _ => 0))))], [(amv, .inl (cJ, 32, .inr (.inl (fun _ => 0))))], [(asl, .inl (cZ, 576, .inl (bF (zeroTo (fun _ => false) 576))))], [(apl, .inl (cJ, 4, .inr (.inl (plNew (fun _ => 0)))))], [(asw, .inl (cJ, 48, .inr (.inl (fun _ => 0))))], [(aor, .inl (cI, 16, .inl (nF (fun _ => 0))))], [(aon, .inl (cJ, 4, .inr (.inl (fun _ => 0))))], [(atw, .inl (cJ, 4, .inr (.inl (fun _ => 0))))], [(aup, .inl (cJ, 12, .inr (.inl (fun _ => 0))))], [(alw, .inl (cJ, 12, .inr (.inl (fun _ => 0))))], [(ob, .inr (4, [.ref ahl, .int (nI 0), .ref abl, .int (nI 0), .ref asr, .ref pb, .ref atr, .int (nI 0), .ref tb, .ref mt]))], [(ahl, .inl (cH, 16, .inr (.inr (.inr (.inr fhl)))))], [(abl, .inl (cB, 16, .inr (.inr (.inr (.inr fbl)))))], [(asr, .inl (cI, 24, .inl (fillTo (fun _ => nI 0) (nI 0) 24)))], [bC pb (-100, -100, -92, -92, 0, 0)], [(atr, .inl (cT, 8, .inr (.inr (.inr (.inr ftr)))))], [bC tb (0, 0, 0, 0, 0, 0)], [mtC mt (0, 0, 0, 0, false)], hP_ cJ hA_ (fun _ => (0, 0, 0)) (fun _ => (fun _ => 0, fun _ => 0, fun _ => 0, fun _ => 0)) 16, bP_ bA_ (fun _ => (0, 0, 0, 0, 0, 0)) 16, tP_ tA_ (fun _ => (0, 0, 0, some 0, 0, 0)) 8, [(out, .inl (cJ, 1, .inr (.inl (fun _ => 0))))]]) (k := [[(out, .inl (cJ, 1, .inr (.inl (fun _ => 0))))], [(ob, .inr (4, [.ref ahl, .int (nI 0), .ref abl, .int (nI 0), .ref asr, .ref pb, .ref atr, .int (nI 0), .ref tb, .ref mt]))], [(om, .inr (5, [.int (nI 0), .int (nI 0), .ref apx, .ref apy, .ref act, .int (nI 0), .ref asd, .ref amv, .ref asl, .ref apl, .ref asw, .int (nI 0), .ref aor, .int (nI 0), .ref aon, .ref atw, .long 0, .long 0, .ref aup, .ref alw, .int (nI 0), .long 0, .long 0, .long 0, .long 0]))], [(ahl, .inl (cH, 16, .inr (.inr (.inr (.inr fhl)))))], [(abl, .inl (cB, 16, .inr (.inr (.inr (.inr fbl)))))], [(asr, .inl (cI, 24, .inl (fillTo (fun _ => nI 0) (nI 0) 24)))], [bC pb (-100, -100, -92, -92, 0, 0)], [(atr, .inl (cT, 8, .inr (.inr (.inr (.inr ftr)))))], [bC tb (0, 0, 0, 0, 0, 0)], [mtC mt (0, 0, 0, 0, false)], hP_ cJ hA_ (fun _ => (0, 0, 0)) (fun _ => (fun _ => 0, fun _ => 0, fun _ => 0, fun _ => 0)) 16, bP_ bA_ (fun _ => (0, 0, 0, 0, 0, 0)) 16, tP_ tA_ (fun _ => (0, 0, 0, some 0, 0, 0)) 8, [(apx, .inl (cJ, 256, .inr (.inl (fun _ => 0))))], [(apy, .inl (cJ, 256, .inr (.inl (fun _ => 0))))], [(act, .inl (cI, 16, .inl (nF (fun _ => 0))))], [(asd, .inl (cJ, 64, .inr (.inl (fun _ => 0))))], [(amv, .inl (cJ, 32, .inr (.inl (fun _ => 0))))], [(asl, .inl (cZ, 576, .inl (bF (zeroTo (fun _ => false) 576))))], [(apl, .inl (cJ, 4, .inr (.inl (plNew (fun _ => 0)))))], [(asw, .inl (cJ, 48, .inr (.inl (fun _ => 0))))], [(aor, .inl (cI, 16, .inl (nF (fun _ => 0))))], [(aon, .inl (cJ, 4, .inr (.inl (fun _ => 0))))], [(atw, .inl (cJ, 4, .inr (.inl (fun _ => 0))))], [(aup, .inl (cJ, 12, .inr (.inl (fun _ => 0))))], [(alw, .inl (cJ, 12, .inr (.inl (fun _ => 0))))]]) rfl rfl rfl rfl (by decide)
  have hP := vaP_perm hpm hP
  have hD := vaD_perm hpm hD
  refine W.widen (k := 200 + 0) (n := 4000 + 6 * 0) (by decide) (by decide) ?_
  exact law_loop dC dI cJ cI cZ cH cB cT out ob om ahl abl asr pb atr tb mt fhl fbl ftr hA_ bA_ tA_ apx apy act asd amv asl apl asw aor aon atw aup alw 200 4000 (by omega) (by omega) hL C0 hst hT hnc hlk hK 600 0 (by omega) (by omega) (fun _ => 0) (0, 0, 0, (fun _ => (0, 0, 0)), (fun _ => (fun _ => 0, fun _ => 0, fun _ => 0, fun _ => 0)), (fun _ => (0, 0, 0, 0, 0, 0)), (fillTo (fun _ => nI 0) (nI 0) 24), (-100, -100, -92, -92, 0, 0), (0, 0, 0, 0, 0, 0), (0, 0, 0, 0, false), (fun _ => (0, 0, 0, some 0, 0, 0))) 0 (0, (fun _ => 0), (fun _ => 0), (fun _ => 0), 0, (fun _ => 0), (fun _ => 0), (zeroTo (fun _ => false) 576), (plNew (fun _ => 0)), (fun _ => 0), 0) (0, (fun _ => 0), (fun _ => 0), (fun _ => 0), 0, 0, (fun _ => 0), (fun _ => 0), 0, 0, 0, 0, 0) RC_new _ _ _ hP hD hS (lv_sub hl [4, 3, 2, 1, 0] rfl)
