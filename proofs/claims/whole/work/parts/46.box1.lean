theorem kOfF {l : Launch} {y : MethodName} {ws ws' : List Cond} {rm : Room} {av : List Value} {B : State → Prop} {Qc : Array Value → State → Outcome → State → Prop} {mc ms : Nat} {free : Addr → Prop} {cc : ByteArray} {maxL : Nat} {ret : Option FieldType}
    (hy : plainFor y = true) (hw : ws = Cond.code y cc maxL ret :: ws') (hn : (lg_sl av).length ≤ maxL)
    (body : ∀ (p : Program) (e : Env) (s : State) (m : MethodId) (below : List Frame) (meth : Method) (c : Code), p.tables.exec = Jvm.exec → c.code = cc → meth.sig.returnType = ret → c.maxLocals = maxL → (∀ w ∈ ws, w.before av.toArray s = true) → s.vm.findClass y.cls = some m.cls → meth.locks = false → B s → ∀ ls : Array Slot, lv_has ls maxL (lv_args 0 av) → W p l e rm s m av.toArray below meth c s.heap [] 0 0 (MQ below Qc av.toArray s mc ms free) (F0 m 0 ls [])) :
    Met l y ws rm (va_Pc av B) Qc mc ms free := by
  refine va_MetF (cc := cc) (maxL := maxL) (ret := ret) hy hw ?_
  intro p e s m args below meth c s₁ B0 hml hv
  obtain ⟨rfl, hB⟩ := hv
  have hl := lv_entry av (n := maxL) hn
  rw [lg_entry_eq]
  exact body p e s m below meth c B0.exec B0.bytes B0.returns hml (atoms_spec (ws := ws) B0.pre) (findClass_of_methodNamed B0.named) B0.notSynchronized hB _ hl
/-- Math.floorDiv -/
def pFD (x y : Int64) : Int64 := if (x ^^^ y) < 0 ∧ ¬ x / y * y = x then x / y - 1 else x / y
set_option maxHeartbeats 4000000 in
set_option maxRecDepth 100000 in
theorem tJ9_floorDiv_f86c9 (l : Launch) (dC : Nat → ClassId) (dI : Nat → Nat → Nat) (x y : Int64) (hy : ¬ y = 0) : PMl l yJ9_floorDiv_f86c9 wsJ9_floorDiv_f86c9 { frames := 0, cells := 0, slots := 0, locals := 0 } [.long x, .long y] (dC, dI) [] [] (pFD x y) := by
  refine kOfF (cc := cJ9_floorDiv_f86c9) (maxL := 6) (ret := (some .long)) (by decide +kernel) rfl (Nat.le_of_ble_eq_true rfl) ?_
  intro p e s m below meth c hx hb hr hml hts hown hlocks hB ls hl
  obtain ⟨hP, hK⟩ := hB
  have hl : lv_has ls 6 [(0, .long x), (2, .long y)] := hl
  refine lv_lload_n hx hb dJ9_floorDiv_f86c9_0 rfl (lv_at hl 0 rfl) ?_
  refine lv_lload_n hx hb dJ9_floorDiv_f86c9_1 rfl (lv_at hl 1 rfl) ?_
  refine lv_ldiv hx hb dJ9_floorDiv_f86c9_2 hy ?_
  refine lv_lstore (lv' := [(4, .long (x / y)), (0, .long x), (2, .long y)]) hx hb dJ9_floorDiv_f86c9_3 hl (by decide) rfl (fun ls hl => ?_)
  refine lv_lload_n hx hb dJ9_floorDiv_f86c9_5 rfl (lv_at hl 1 rfl) ?_
  refine lv_lload_n hx hb dJ9_floorDiv_f86c9_6 rfl (lv_at hl 2 rfl) ?_
  refine lv_lxor hx hb dJ9_floorDiv_f86c9_7 ?_
  refine lv_lconst (v := 0) hx hb dJ9_floorDiv_f86c9_8 (by decide) ?_
  refine W.lcmp hx hb dJ9_floorDiv_f86c9_9 ?_
  refine lv_if_ge (tgt := 27) hx hb dJ9_floorDiv_f86c9_10 (by decide) (fun c10 => ?_) (fun c10 => ?_)
  · rw [lg_cmp_ge] at c10
    refine lv_lload hx hb dJ9_floorDiv_f86c9_27 (lv_at hl 0 rfl) ?_
    exact kRl hx hb hr hlocks dJ9_floorDiv_f86c9_29 (by unfold pFD; rw [if_neg (fun z => absurd z.1 (Int64.not_lt.mpr c10))])
  · rw [lg_cmp_ge, Int64.not_le] at c10
    refine lv_lload hx hb dJ9_floorDiv_f86c9_13 (lv_at hl 0 rfl) ?_
    refine lv_lload_n hx hb dJ9_floorDiv_f86c9_15 rfl (lv_at hl 2 rfl) ?_
    refine lv_lmul hx hb dJ9_floorDiv_f86c9_16 ?_
    refine lv_lload_n hx hb dJ9_floorDiv_f86c9_17 rfl (lv_at hl 1 rfl) ?_
    refine W.lcmp hx hb dJ9_floorDiv_f86c9_18 ?_
    refine lv_if_eq (tgt := 27) hx hb dJ9_floorDiv_f86c9_19 (by decide) (fun c19 => ?_) (fun c19 => ?_)
    · rw [lg_cmp_eq] at c19
      refine lv_lload hx hb dJ9_floorDiv_f86c9_27 (lv_at hl 0 rfl) ?_
      exact kRl hx hb hr hlocks dJ9_floorDiv_f86c9_29 (by unfold pFD; rw [if_neg (fun z => z.2 c19)])
    · rw [lg_cmp_eq] at c19
      refine lv_lload hx hb dJ9_floorDiv_f86c9_22 (lv_at hl 0 rfl) ?_
      refine lv_lconst (v := 1) hx hb dJ9_floorDiv_f86c9_24 (by decide) ?_
      refine lv_lsub hx hb dJ9_floorDiv_f86c9_25 ?_
      exact kRl hx hb hr hlocks dJ9_floorDiv_f86c9_26 (by unfold pFD; rw [if_pos ⟨c10, c19⟩])

set_option maxHeartbeats 4000000 in
set_option maxRecDepth 100000 in
theorem tX4_firstTileFrom (l : Launch) (dC : Nat → ClassId) (dI : Nat → Nat → Nat) (x : Int64)  : PMi l yX4_firstTileFrom wsX4_firstTileFrom { frames := 1, cells := 0, slots := 0, locals := 25 } [.long x] (dC, dI) [] [] ((lMax 0 (pFD x 16)).toInt32) := by
  refine kOf (cc := cX4_firstTileFrom) (maxL := 2) (ret := (some .int)) (by decide) rfl (Nat.le_of_ble_eq_true rfl) ?_
  intro p e s m below meth c hx hb hr hml hts hown hlocks hB ls hl
  obtain ⟨hP, hK⟩ := hB
  have hl : lv_has ls 2 [(0, .long x)] := hl
  refine lv_lconst (v := 0) hx hb dX4_firstTileFrom_0 (by decide) ?_
  refine lv_lload_n hx hb dX4_firstTileFrom_1 rfl (lv_at hl 0 rfl) ?_
  refine lv_ldc2 hx hb hown (hts (.constantLong RX4 216 (16)) (by decide +kernel)) dX4_firstTileFrom_2 ?_
  refine kpSl (As := [.long x, .long 16]) (rest := [.long 0]) (WC := []) (tyC := []) ⟨hx, hb, hml, hown, hts⟩ (tJ9_floorDiv_f86c9 l dC dI x 16 (by decide)) (va_cwS 2 hts gX4_firstTileFrom_J9_floorDiv_f86c9 rfl rfl rfl (by decide +kernel) ⟨Nat.le_of_ble_eq_true rfl, Nat.le_of_ble_eq_true rfl⟩) (kPick (isC := []) hP rfl) (hK.sub [] rfl) rfl rfl hl.1 (Nat.le_of_ble_eq_true rfl) dX4_firstTileFrom_5 ⟨Nat.le_of_ble_eq_true rfl, Nat.le_of_ble_eq_true rfl⟩ ?_
  refine va_mmax_long hx hb (hml.trans hl.1.symm) hown (hts (.methodLink RX4 224 Lib.MathLoose.max_long.x) (by decide +kernel)) (hts (.static Lib.MathLoose.max_long.x) (by decide +kernel)) (hts (.initialized "java/lang/Math") (by decide +kernel)) (hts (.code Lib.MathLoose.max_long.x Lib.MathLoose.max_long.code 4 (some .long)) (by decide +kernel)) (Nat.le_of_ble_eq_true rfl) (Nat.le_of_ble_eq_true rfl) (Nat.zero_le _) (Nat.zero_le _) dX4_firstTileFrom_8 ?_
  refine lv_l2i hx hb dX4_firstTileFrom_11 rfl ?_
  exact kRi hx hb hr hlocks dX4_firstTileFrom_12 rfl

set_option maxHeartbeats 4000000 in
set_option maxRecDepth 100000 in
theorem tX4_lastTileTo (l : Launch) (dC : Nat → ClassId) (dI : Nat → Nat → Nat) (x : Int64)  : PMi l yX4_lastTileTo wsX4_lastTileTo { frames := 1, cells := 0, slots := 0, locals := 25 } [.long x] (dC, dI) [] [] ((lMin 23 (pFD x 16)).toInt32) := by
  refine kOf (cc := cX4_lastTileTo) (maxL := 2) (ret := (some .int)) (by decide) rfl (Nat.le_of_ble_eq_true rfl) ?_
  intro p e s m below meth c hx hb hr hml hts hown hlocks hB ls hl
  obtain ⟨hP, hK⟩ := hB
  have hl : lv_has ls 2 [(0, .long x)] := hl
  refine lv_ldc2 hx hb hown (hts (.constantLong RX4 227 (23)) (by decide +kernel)) dX4_lastTileTo_0 ?_
  refine lv_lload_n hx hb dX4_lastTileTo_3 rfl (lv_at hl 0 rfl) ?_
  refine lv_ldc2 hx hb hown (hts (.constantLong RX4 216 (16)) (by decide +kernel)) dX4_lastTileTo_4 ?_
  refine kpSl (As := [.long x, .long 16]) (rest := [.long 23]) (WC := []) (tyC := []) ⟨hx, hb, hml, hown, hts⟩ (tJ9_floorDiv_f86c9 l dC dI x 16 (by decide)) (va_cwS 2 hts gX4_lastTileTo_J9_floorDiv_f86c9 rfl rfl rfl (by decide +kernel) ⟨Nat.le_of_ble_eq_true rfl, Nat.le_of_ble_eq_true rfl⟩) (kPick (isC := []) hP rfl) (hK.sub [] rfl) rfl rfl hl.1 (Nat.le_of_ble_eq_true rfl) dX4_lastTileTo_7 ⟨Nat.le_of_ble_eq_true rfl, Nat.le_of_ble_eq_true rfl⟩ ?_
  refine va_mmin_long hx hb (hml.trans hl.1.symm) hown (hts (.methodLink RX4 229 Lib.MathLoose.min_long.x) (by decide +kernel)) (hts (.static Lib.MathLoose.min_long.x) (by decide +kernel)) (hts (.initialized "java/lang/Math") (by decide +kernel)) (hts (.code Lib.MathLoose.min_long.x Lib.MathLoose.min_long.code 4 (some .long)) (by decide +kernel)) (Nat.le_of_ble_eq_true rfl) (Nat.le_of_ble_eq_true rfl) (Nat.zero_le _) (Nat.zero_le _) dX4_lastTileTo_10 ?_
  refine lv_l2i hx hb dX4_lastTileTo_13 rfl ?_
  exact kRi hx hb hr hlocks dX4_lastTileTo_14 rfl

def sBit (x : Int32) (i : Nat) : Bool := decide ((x >>> (nI i &&& 31)) &&& nI 1 = nI 1)
set_option maxHeartbeats 4000000 in
set_option maxRecDepth 100000 in
theorem tX4_isSolid (l : Launch) (dC : Nat → ClassId) (dI : Nat → Nat → Nat) (cI : ClassId) (ob ahl nh abl nb asr pb atr nt tb mt : Nat) (fsr : Nat → Int32) (i j : Nat) (hj : j < 24) : PMi l yX4_isSolid wsX4_isSolid { frames := 0, cells := 0, slots := 0, locals := 0 } [.ref ob, .int (nI i), .int (nI j)] (dC, dI) [(ob, .inr (4, [.ref ahl, .int (nI nh), .ref abl, .int (nI nb), .ref asr, .ref pb, .ref atr, .int (nI nt), .ref tb, .ref mt])), (asr, .inl (cI, 24, .inl fsr))] [(cI, .int)] (bI (sBit (fsr j) i)) := by
  refine kOf (cc := cX4_isSolid) (maxL := 3) (ret := (some .boolean)) (by decide) rfl (Nat.le_of_ble_eq_true rfl) ?_
  intro p e s m below meth c hx hb hr hml hts hown hlocks hB ls hl
  obtain ⟨hP, hK⟩ := hB
  have hl : lv_has ls 3 [(0, .ref ob), (1, .int (nI i)), (2, .int (nI j))] := hl
  have hi4 : ∀ w ∈ u_ws RX4 TX4 10, w ∈ wsX4_isSolid := by decide +kernel
  have f21 := hts (.fieldLink RX4 21 "SweptBoxes" "solidRows" "[I") (by decide +kernel)
  refine lv_aload_n hx hb dX4_isSolid_0 rfl (lv_at hl 0 rfl) ?_
  refine va_get (D := (dC, dI)) (ci := 4) (v := .ref asr) (C := RX4) (T := TX4) (N := 10) hx hb hts hi4 hown hK hP 0 rfl rfl 4 (by decide) f21 (fun _ h9 => h9) rfl dX4_isSolid_1 ?_
  refine lv_iload_n hx hb dX4_isSolid_4 rfl (lv_at hl 2 rfl) ?_
  refine va_iald hx hb hK hP 1 0 rfl rfl (vp_in_nI (show j < 24 by omega) (by omega)) dX4_isSolid_5 ?_
  rw [show (nI j).toNatClampNeg = j from nI_clamp (show j < 2 ^ 31 by omega)]
  refine lv_iload_n hx hb dX4_isSolid_6 rfl (lv_at hl 1 rfl) ?_
  refine lv_ishr hx hb dX4_isSolid_7 ?_
  refine lv_iconst (v := (nI 1)) hx hb dX4_isSolid_8 (by decide) ?_
  refine lv_iand hx hb dX4_isSolid_9 ?_
  refine lv_iconst (v := (nI 1)) hx hb dX4_isSolid_10 (by decide) ?_
  refine lv_icmp_ne (tgt := 18) hx hb dX4_isSolid_11 (by decide) (fun c11 => ?_) (fun c11 => ?_)
  · skip
    refine lv_iconst (v := (nI 0)) hx hb dX4_isSolid_18 (by decide) ?_
    exact kRz hx hb hr hlocks dX4_isSolid_19 (kz0 c11)
  · skip
    refine lv_iconst (v := (nI 1)) hx hb dX4_isSolid_14 (by decide) ?_
    refine lv_goto (tgt := 19) hx hb dX4_isSolid_15 (by decide) ?_
    exact kRz hx hb hr hlocks dX4_isSolid_19 (kz1 c11)

/-- whether the player, moved to time up / lo, and tile tm overlap in x -/
def oXT (px0 px1 pdx up lo : Int64) (tm : Nat) : Bool := decide (px0 * lo + pdx * up < ((nI (tm % 24)).toInt64 * 16 + 16) * lo ∧ (nI (tm % 24)).toInt64 * 16 * lo < px1 * lo + pdx * up)
def oA (px0 px1 pdx up lo : Int64) (tm : Nat) : Nat := match oXT px0 px1 pdx up lo tm with
  | true => 1
  | false => 0
set_option maxHeartbeats 4000000 in
set_option maxRecDepth 100000 in
theorem tX4_overlapsInXThen (l : Launch) (dC : Nat → ClassId) (dI : Nat → Nat → Nat) (ob ahl nh abl nb asr pb atr nt tb mt : Nat) (px0 py0 px1 py1 pdx pdy : Int64) (tr : Nat) (zx zy : Int64) (zax : Int32) (ztm : Nat) (zup zlo : Int64) (hz : ztm < 576) : PMi l yX4_overlapsInXThen wsX4_overlapsInXThen { frames := 0, cells := 0, slots := 0, locals := 0 } [.ref ob, .ref tr] (dC, dI) [(ob, .inr (4, [.ref ahl, .int (nI nh), .ref abl, .int (nI nb), .ref asr, .ref pb, .ref atr, .int (nI nt), .ref tb, .ref mt])), (pb, .inr (0, [.long px0, .long py0, .long px1, .long py1, .long pdx, .long pdy])), (tr, .inr (3, [.long zx, .long zy, .int zax, .int (nI ztm), .long zup, .long zlo]))] [] (bI (oXT px0 px1 pdx zup zlo ztm)) := by
  refine kOf (cc := cX4_overlapsInXThen) (maxL := 10) (ret := (some .boolean)) (by decide) rfl (Nat.le_of_ble_eq_true rfl) ?_
  intro p e s m below meth c hx hb hr hml hts hown hlocks hB ls hl
  obtain ⟨hP, hK⟩ := hB
  have hl : lv_has ls 10 [(0, .ref ob), (1, .ref tr)] := hl
  have hi0 : ∀ w ∈ u_ws RX0 TX0 6, w ∈ wsX4_overlapsInXThen := by decide +kernel
  have hi3 : ∀ w ∈ u_ws RX3 TX3 6, w ∈ wsX4_overlapsInXThen := by decide +kernel
  have hi4 : ∀ w ∈ u_ws RX4 TX4 10, w ∈ wsX4_overlapsInXThen := by decide +kernel
  have f26 := hts (.fieldLink RX4 26 "SweptBoxes" "playerBox" "LSweptBoxes$Block;") (by decide +kernel)
  have f110 := hts (.fieldLink RX4 110 "SweptBoxes$Block" "dx" "J") (by decide +kernel)
  have f158 := hts (.fieldLink RX4 158 "SweptBoxes$Block" "x0" "J") (by decide +kernel)
  have f173 := hts (.fieldLink RX4 173 "SweptBoxes$Block" "x1" "J") (by decide +kernel)
  have f193 := hts (.fieldLink RX4 193 "SweptBoxes$Trace" "tileMet" "I") (by decide +kernel)
  have f196 := hts (.fieldLink RX4 196 "SweptBoxes$Trace" "upper" "J") (by decide +kernel)
  have f197 := hts (.fieldLink RX4 197 "SweptBoxes$Trace" "lower" "J") (by decide +kernel)
  refine lv_aload_n hx hb dX4_overlapsInXThen_0 rfl (lv_at hl 1 rfl) ?_
  refine va_get (D := (dC, dI)) (ci := 3) (v := .int (nI ztm)) (C := RX3) (T := TX3) (N := 6) hx hb hts hi3 hown hK hP 2 rfl rfl 3 (by decide) f193 (fun _ h9 => h9) rfl dX4_overlapsInXThen_1 ?_
  refine lv_bipush (v := (nI 24)) hx hb dX4_overlapsInXThen_4 (by decide) ?_
  refine lv_irem hx hb dX4_overlapsInXThen_6 (by decide) ?_
  rw [show (nI ztm) - (nI ztm) / (nI 24) * (nI 24) = (nI (ztm % 24)) from pk_rem (show ztm < 2 ^ 31 by omega) (by decide) (by decide)]
  refine lv_i2l hx hb dX4_overlapsInXThen_7 rfl ?_
  refine lv_ldc2 hx hb hown (hts (.constantLong RX4 216 (16)) (by decide +kernel)) dX4_overlapsInXThen_8 ?_
  refine lv_lmul hx hb dX4_overlapsInXThen_11 ?_
  refine lv_lstore_n (lv' := [(2, .long ((nI (ztm % 24)).toInt64 * 16)), (0, .ref ob), (1, .ref tr)]) hx hb dX4_overlapsInXThen_12 rfl hl (by decide) rfl (fun ls hl => ?_)
  refine lv_aload_n hx hb dX4_overlapsInXThen_13 rfl (lv_at hl 1 rfl) ?_
  refine va_get (D := (dC, dI)) (ci := 4) (v := .ref pb) (C := RX4) (T := TX4) (N := 10) hx hb hts hi4 hown hK hP 0 rfl rfl 5 (by decide) f26 (fun _ h9 => h9) rfl dX4_overlapsInXThen_14 ?_
  refine va_get (D := (dC, dI)) (ci := 0) (v := .long pdx) (C := RX0) (T := TX0) (N := 6) hx hb hts hi0 hown hK hP 1 rfl rfl 4 (by decide) f110 (fun _ h9 => h9) rfl dX4_overlapsInXThen_17 ?_
  refine lv_aload_n hx hb dX4_overlapsInXThen_20 rfl (lv_at hl 2 rfl) ?_
  refine va_get (D := (dC, dI)) (ci := 3) (v := .long zup) (C := RX3) (T := TX3) (N := 6) hx hb hts hi3 hown hK hP 2 rfl rfl 4 (by decide) f196 (fun _ h9 => h9) rfl dX4_overlapsInXThen_21 ?_
  refine lv_lmul hx hb dX4_overlapsInXThen_24 ?_
  refine lv_lstore (lv' := [(4, .long (pdx * zup)), (2, .long ((nI (ztm % 24)).toInt64 * 16)), (0, .ref ob), (1, .ref tr)]) hx hb dX4_overlapsInXThen_25 hl (by decide) rfl (fun ls hl => ?_)
  refine lv_aload_n hx hb dX4_overlapsInXThen_27 rfl (lv_at hl 2 rfl) ?_
  refine va_get (D := (dC, dI)) (ci := 4) (v := .ref pb) (C := RX4) (T := TX4) (N := 10) hx hb hts hi4 hown hK hP 0 rfl rfl 5 (by decide) f26 (fun _ h9 => h9) rfl dX4_overlapsInXThen_28 ?_
  refine va_get (D := (dC, dI)) (ci := 0) (v := .long px0) (C := RX0) (T := TX0) (N := 6) hx hb hts hi0 hown hK hP 1 rfl rfl 0 (by decide) f158 (fun _ h9 => h9) rfl dX4_overlapsInXThen_31 ?_
  refine lv_aload_n hx hb dX4_overlapsInXThen_34 rfl (lv_at hl 3 rfl) ?_
  refine va_get (D := (dC, dI)) (ci := 3) (v := .long zlo) (C := RX3) (T := TX3) (N := 6) hx hb hts hi3 hown hK hP 2 rfl rfl 5 (by decide) f197 (fun _ h9 => h9) rfl dX4_overlapsInXThen_35 ?_
  refine lv_lmul hx hb dX4_overlapsInXThen_38 ?_
  refine lv_lload hx hb dX4_overlapsInXThen_39 (lv_at hl 0 rfl) ?_
  refine lv_ladd hx hb dX4_overlapsInXThen_41 ?_
  refine lv_lstore (lv' := [(6, .long ((px0 * zlo) + (pdx * zup))), (4, .long (pdx * zup)), (2, .long ((nI (ztm % 24)).toInt64 * 16)), (0, .ref ob), (1, .ref tr)]) hx hb dX4_overlapsInXThen_42 hl (by decide) rfl (fun ls hl => ?_)
  refine lv_aload_n hx hb dX4_overlapsInXThen_44 rfl (lv_at hl 3 rfl) ?_
  refine va_get (D := (dC, dI)) (ci := 4) (v := .ref pb) (C := RX4) (T := TX4) (N := 10) hx hb hts hi4 hown hK hP 0 rfl rfl 5 (by decide) f26 (fun _ h9 => h9) rfl dX4_overlapsInXThen_45 ?_
  refine va_get (D := (dC, dI)) (ci := 0) (v := .long px1) (C := RX0) (T := TX0) (N := 6) hx hb hts hi0 hown hK hP 1 rfl rfl 2 (by decide) f173 (fun _ h9 => h9) rfl dX4_overlapsInXThen_48 ?_
  refine lv_aload_n hx hb dX4_overlapsInXThen_51 rfl (lv_at hl 4 rfl) ?_
  refine va_get (D := (dC, dI)) (ci := 3) (v := .long zlo) (C := RX3) (T := TX3) (N := 6) hx hb hts hi3 hown hK hP 2 rfl rfl 5 (by decide) f197 (fun _ h9 => h9) rfl dX4_overlapsInXThen_52 ?_
  refine lv_lmul hx hb dX4_overlapsInXThen_55 ?_
  refine lv_lload hx hb dX4_overlapsInXThen_56 (lv_at hl 1 rfl) ?_
  refine lv_ladd hx hb dX4_overlapsInXThen_58 ?_
  refine lv_lstore (lv' := [(8, .long ((px1 * zlo) + (pdx * zup))), (6, .long ((px0 * zlo) + (pdx * zup))), (4, .long (pdx * zup)), (2, .long ((nI (ztm % 24)).toInt64 * 16)), (0, .ref ob), (1, .ref tr)]) hx hb dX4_overlapsInXThen_59 hl (by decide) rfl (fun ls hl => ?_)
  refine lv_lload hx hb dX4_overlapsInXThen_61 (lv_at hl 1 rfl) ?_
  refine lv_lload_n hx hb dX4_overlapsInXThen_63 rfl (lv_at hl 3 rfl) ?_
  refine lv_ldc2 hx hb hown (hts (.constantLong RX4 216 (16)) (by decide +kernel)) dX4_overlapsInXThen_64 ?_
  refine lv_ladd hx hb dX4_overlapsInXThen_67 ?_
  refine lv_aload_n hx hb dX4_overlapsInXThen_68 rfl (lv_at hl 5 rfl) ?_
  refine va_get (D := (dC, dI)) (ci := 3) (v := .long zlo) (C := RX3) (T := TX3) (N := 6) hx hb hts hi3 hown hK hP 2 rfl rfl 5 (by decide) f197 (fun _ h9 => h9) rfl dX4_overlapsInXThen_69 ?_
  refine lv_lmul hx hb dX4_overlapsInXThen_72 ?_
  refine W.lcmp hx hb dX4_overlapsInXThen_73 ?_
  refine lv_if_ge (tgt := 93) hx hb dX4_overlapsInXThen_74 (by decide) (fun c74 => ?_) (fun c74 => ?_)
  · rw [lg_cmp_ge] at c74
    refine lv_iconst (v := (nI 0)) hx hb dX4_overlapsInXThen_93 (by decide) ?_
    exact kRz hx hb hr hlocks dX4_overlapsInXThen_94 (kz0 (fun z => absurd z.1 (Int64.not_lt.mpr c74)))
  · rw [lg_cmp_ge, Int64.not_le] at c74
    refine lv_lload hx hb dX4_overlapsInXThen_77 (lv_at hl 0 rfl) ?_
    refine lv_lload_n hx hb dX4_overlapsInXThen_79 rfl (lv_at hl 3 rfl) ?_
    refine lv_aload_n hx hb dX4_overlapsInXThen_80 rfl (lv_at hl 5 rfl) ?_
    refine va_get (D := (dC, dI)) (ci := 3) (v := .long zlo) (C := RX3) (T := TX3) (N := 6) hx hb hts hi3 hown hK hP 2 rfl rfl 5 (by decide) f197 (fun _ h9 => h9) rfl dX4_overlapsInXThen_81 ?_
    refine lv_lmul hx hb dX4_overlapsInXThen_84 ?_
    refine W.lcmp hx hb dX4_overlapsInXThen_85 ?_
    refine lv_if_le (tgt := 93) hx hb dX4_overlapsInXThen_86 (by decide) (fun c86 => ?_) (fun c86 => ?_)
    · rw [lg_cmp_le] at c86
      refine lv_iconst (v := (nI 0)) hx hb dX4_overlapsInXThen_93 (by decide) ?_
      exact kRz hx hb hr hlocks dX4_overlapsInXThen_94 (kz0 (fun z => absurd z.2 (Int64.not_lt.mpr c86)))
    · rw [lg_cmp_le, Int64.not_le] at c86
      refine lv_iconst (v := (nI 1)) hx hb dX4_overlapsInXThen_89 (by decide) ?_
      refine lv_goto (tgt := 94) hx hb dX4_overlapsInXThen_90 (by decide) ?_
      exact kRz hx hb hr hlocks dX4_overlapsInXThen_94 (kz1 ⟨c74, c86⟩)

set_option maxHeartbeats 4000000 in
set_option maxRecDepth 100000 in
theorem tX4_stopAndSlide (l : Launch) (dC : Nat → ClassId) (dI : Nat → Nat → Nat) (ob ahl nh abl nb asr pb atr nt tb mt : Nat) (px0 py0 px1 py1 pdx pdy : Int64) (tr : Nat) (zx zy : Int64) (zax : Int32) (ztm : Nat) (zup zlo : Int64) (hz : ztm < 576) : MMv l yX4_stopAndSlide wsX4_stopAndSlide { frames := 1, cells := 0, slots := 0, locals := 29 } [.ref ob, .ref tr] (dC, dI) [(ob, .inr (4, [.ref ahl, .int (nI nh), .ref abl, .int (nI nb), .ref asr, .ref pb, .ref atr, .int (nI nt), .ref tb, .ref mt])), (pb, .inr (0, [.long px0, .long py0, .long px1, .long py1, .long pdx, .long pdy])), (tr, .inr (3, [.long zx, .long zy, .int zax, .int (nI ztm), .long zup, .long zlo]))] [(ob, .inr (4, [.ref ahl, .int (nI nh), .ref abl, .int (nI nb), .ref asr, .ref pb, .ref atr, .int (nI nt), .ref tb, .ref mt])), (pb, .inr (0, [.long (px0 + (pShare zup zlo pdx)), .long (py0 + (pShare zup zlo pdy)), .long (px1 + (pShare zup zlo pdx)), .long (py1 + (pShare zup zlo pdy)), .long (gRx (oA px0 px1 pdx zup zlo ztm) pdx (pShare zup zlo pdx)), .long (gRy (oA px0 px1 pdx zup zlo ztm) pdy (pShare zup zlo pdy))])), (tr, .inr (3, [.long zx, .long zy, .int (axI (oA px0 px1 pdx zup zlo ztm)), .int (nI ztm), .long zup, .long zlo]))] [] := by
  intro sz
  refine kOf (cc := cX4_stopAndSlide) (maxL := 10) (ret := none) (by decide) rfl (Nat.le_of_ble_eq_true rfl) ?_
  intro p e s m below meth c hx hb hr hml hts hown hlocks hB ls hl
  obtain ⟨hsz, hP, hK, hD0⟩ := hB
  subst hsz
  have hD := hD0.self (sz := s.heap.size)
  generalize hAe : va_A [(ob, .inr (4, [.ref ahl, .int (nI nh), .ref abl, .int (nI nb), .ref asr, .ref pb, .ref atr, .int (nI nt), .ref tb, .ref mt])), (pb, .inr (0, [.long px0, .long py0, .long px1, .long py1, .long pdx, .long pdy])), (tr, .inr (3, [.long zx, .long zy, .int zax, .int (nI ztm), .long zup, .long zlo]))] s.heap.size = A at hD ⊢
  have hA : ∀ q : Nat, s.heap.size ≤ q → A q := fun q h => by rw [← hAe]; exact Or.inr h
  have hS : va_S A s.heap s.heap [] := va_S.rf
  have hl : lv_has ls 10 [(0, .ref ob), (1, .ref tr)] := hl
  have hi0 : ∀ w ∈ u_ws RX0 TX0 6, w ∈ wsX4_stopAndSlide := by decide +kernel
  have hi3 : ∀ w ∈ u_ws RX3 TX3 6, w ∈ wsX4_stopAndSlide := by decide +kernel
  have hi4 : ∀ w ∈ u_ws RX4 TX4 10, w ∈ wsX4_stopAndSlide := by decide +kernel
  have f26 := hts (.fieldLink RX4 26 "SweptBoxes" "playerBox" "LSweptBoxes$Block;") (by decide +kernel)
  have f110 := hts (.fieldLink RX4 110 "SweptBoxes$Block" "dx" "J") (by decide +kernel)
  have f114 := hts (.fieldLink RX4 114 "SweptBoxes$Block" "dy" "J") (by decide +kernel)
  have f190 := hts (.fieldLink RX4 190 "SweptBoxes$Trace" "axis" "I") (by decide +kernel)
  refine lv_aload_n hx hb dX4_stopAndSlide_0 rfl (lv_at hl 1 rfl) ?_
  refine lv_aload_n hx hb dX4_stopAndSlide_1 rfl (lv_at hl 0 rfl) ?_
  refine lv_aload_n hx hb dX4_stopAndSlide_2 rfl (lv_at hl 1 rfl) ?_
  refine kpVi (q0 := 0) (ci := 4) (As := [.ref tr]) (rest := [.ref tr]) (WC := [(ob, .inr (4, [.ref ahl, .int (nI nh), .ref abl, .int (nI nb), .ref asr, .ref pb, .ref atr, .int (nI nt), .ref tb, .ref mt])), (pb, .inr (0, [.long px0, .long py0, .long px1, .long py1, .long pdx, .long pdy])), (tr, .inr (3, [.long zx, .long zy, .int zax, .int (nI ztm), .long zup, .long zlo]))]) (tyC := []) ⟨hx, hb, hml, hown, hts⟩ (tX4_overlapsInXThen l dC dI ob ahl nh abl nb asr pb atr nt tb mt px0 py0 px1 py1 pdx pdy tr zx zy zax ztm zup zlo (by omega)) (cwV 1 hts gX4_stopAndSlide_X4_overlapsInXThen rfl rfl rfl (by decide +kernel) ⟨Nat.le_of_ble_eq_true rfl, Nat.le_of_ble_eq_true rfl⟩) (kPick (isC := [0, 1, 2]) hP rfl) (hK.sub [] rfl) rfl rfl rfl rfl hl.1 (Nat.le_of_ble_eq_true rfl) dX4_stopAndSlide_3 ⟨Nat.le_of_ble_eq_true rfl, Nat.le_of_ble_eq_true rfl⟩ ?_
  refine lv_if_eq (tgt := 13) hx hb dX4_stopAndSlide_6 (by decide) (fun c6 => ?_) (fun c6 => ?_)
  · replace c6 := bI_0 c6
    refine lv_iconst (v := (nI 0)) hx hb dX4_stopAndSlide_13 (by decide) ?_
    refine va_put (D := (dC, dI)) (ci := 3) (v := .int (nI 0)) (ty := .int) (C := RX3) (T := TX3) (N := 6) hx hb hts hi3 tyX3 tyX3_ok nmX3 hown hK hP hD hS 2 rfl rfl 2 (by decide) f190 (fun _ h9 => h9) rfl (by decide +kernel) rfl rfl (Nat.le_of_ble_eq_true rfl) dX4_stopAndSlide_14 (fun H locs hP hD hS => ?_)
    have hP : va_P (dC, dI) vwCl [(ob, .inr (4, [.ref ahl, .int (nI nh), .ref abl, .int (nI nb), .ref asr, .ref pb, .ref atr, .int (nI nt), .ref tb, .ref mt])), (pb, .inr (0, [.long px0, .long py0, .long px1, .long py1, .long pdx, .long pdy])), (tr, .inr (3, [.long zx, .long zy, .int (nI 0), .int (nI ztm), .long zup, .long zlo]))] H := hP
    have hD : va_D A [(ob, .inr (4, [.ref ahl, .int (nI nh), .ref abl, .int (nI nb), .ref asr, .ref pb, .ref atr, .int (nI nt), .ref tb, .ref mt])), (pb, .inr (0, [.long px0, .long py0, .long px1, .long py1, .long pdx, .long pdy])), (tr, .inr (3, [.long zx, .long zy, .int (nI 0), .int (nI ztm), .long zup, .long zlo]))] := hD
    refine lv_aload_n hx hb dX4_stopAndSlide_17 rfl (lv_at hl 1 rfl) ?_
    refine lv_aload_n hx hb dX4_stopAndSlide_18 rfl (lv_at hl 0 rfl) ?_
    refine va_get (D := (dC, dI)) (ci := 4) (v := .ref pb) (C := RX4) (T := TX4) (N := 10) hx hb hts hi4 hown hK hP 0 rfl rfl 5 (by decide) f26 (fun _ h9 => h9) rfl dX4_stopAndSlide_19 ?_
    refine va_get (D := (dC, dI)) (ci := 0) (v := .long pdx) (C := RX0) (T := TX0) (N := 6) hx hb hts hi0 hown hK hP 1 rfl rfl 4 (by decide) f110 (fun _ h9 => h9) rfl dX4_stopAndSlide_22 ?_
    refine kpVl (q0 := 0) (ci := 3) (As := [.long pdx]) (rest := []) (WC := [(tr, .inr (3, [.long zx, .long zy, .int (nI 0), .int (nI ztm), .long zup, .long zlo]))]) (tyC := []) ⟨hx, hb, hml, hown, hts⟩ (tX3_shareOf l dC dI tr zx zy (nI 0) (nI ztm) zup zlo pdx) (cwV 1 hts gX4_stopAndSlide_X3_shareOf rfl rfl rfl (by decide +kernel) ⟨Nat.le_of_ble_eq_true rfl, Nat.le_of_ble_eq_true rfl⟩) (kPick (isC := [2]) hP rfl) (hK.sub [] rfl) rfl rfl rfl rfl hl.1 (Nat.le_of_ble_eq_true rfl) dX4_stopAndSlide_25 ⟨Nat.le_of_ble_eq_true rfl, Nat.le_of_ble_eq_true rfl⟩ ?_
    refine lv_lstore_n (lv' := [(2, .long (pShare zup zlo pdx)), (0, .ref ob), (1, .ref tr)]) hx hb dX4_stopAndSlide_28 rfl hl (by decide) rfl (fun ls hl => ?_)
    refine lv_aload_n hx hb dX4_stopAndSlide_29 rfl (lv_at hl 2 rfl) ?_
    refine lv_aload_n hx hb dX4_stopAndSlide_30 rfl (lv_at hl 1 rfl) ?_
    refine va_get (D := (dC, dI)) (ci := 4) (v := .ref pb) (C := RX4) (T := TX4) (N := 10) hx hb hts hi4 hown hK hP 0 rfl rfl 5 (by decide) f26 (fun _ h9 => h9) rfl dX4_stopAndSlide_31 ?_
    refine va_get (D := (dC, dI)) (ci := 0) (v := .long pdy) (C := RX0) (T := TX0) (N := 6) hx hb hts hi0 hown hK hP 1 rfl rfl 5 (by decide) f114 (fun _ h9 => h9) rfl dX4_stopAndSlide_34 ?_
    refine kpVl (q0 := 0) (ci := 3) (As := [.long pdy]) (rest := []) (WC := [(tr, .inr (3, [.long zx, .long zy, .int (nI 0), .int (nI ztm), .long zup, .long zlo]))]) (tyC := []) ⟨hx, hb, hml, hown, hts⟩ (tX3_shareOf l dC dI tr zx zy (nI 0) (nI ztm) zup zlo pdy) (cwV 1 hts gX4_stopAndSlide_X3_shareOf rfl rfl rfl (by decide +kernel) ⟨Nat.le_of_ble_eq_true rfl, Nat.le_of_ble_eq_true rfl⟩) (kPick (isC := [2]) hP rfl) (hK.sub [] rfl) rfl rfl rfl rfl hl.1 (Nat.le_of_ble_eq_true rfl) dX4_stopAndSlide_37 ⟨Nat.le_of_ble_eq_true rfl, Nat.le_of_ble_eq_true rfl⟩ ?_
    refine lv_lstore (lv' := [(4, .long (pShare zup zlo pdy)), (2, .long (pShare zup zlo pdx)), (0, .ref ob), (1, .ref tr)]) hx hb dX4_stopAndSlide_40 hl (by decide) rfl (fun ls hl => ?_)
    refine lv_aload_n hx hb dX4_stopAndSlide_42 rfl (lv_at hl 3 rfl) ?_
    refine va_get (D := (dC, dI)) (ci := 3) (v := .int (nI 0)) (C := RX3) (T := TX3) (N := 6) hx hb hts hi3 hown hK hP 2 rfl rfl 2 (by decide) f190 (fun _ h9 => h9) rfl dX4_stopAndSlide_43 ?_
    refine lv_if_ne (tgt := 53) hx hb dX4_stopAndSlide_46 (by decide) (fun c46 => ?_) (fun c46 => ?_)
    · skip
      exact absurd c46 (by decide)
    · rw [← nI_0, nI_eq (by omega) (by omega)] at c46
      refine lv_lconst (v := 0) hx hb dX4_stopAndSlide_49 (by decide) ?_
      refine lv_goto (tgt := 62) hx hb dX4_stopAndSlide_50 (by decide) ?_
      refine lv_lstore (lv' := [(6, .long 0), (4, .long (pShare zup zlo pdy)), (2, .long (pShare zup zlo pdx)), (0, .ref ob), (1, .ref tr)]) hx hb dX4_stopAndSlide_62 hl (by decide) rfl (fun ls hl => ?_)
      refine lv_aload_n hx hb dX4_stopAndSlide_64 rfl (lv_at hl 4 rfl) ?_
      refine va_get (D := (dC, dI)) (ci := 3) (v := .int (nI 0)) (C := RX3) (T := TX3) (N := 6) hx hb hts hi3 hown hK hP 2 rfl rfl 2 (by decide) f190 (fun _ h9 => h9) rfl dX4_stopAndSlide_65 ?_
      refine lv_iconst (v := (nI 1)) hx hb dX4_stopAndSlide_68 (by decide) ?_
      refine lv_icmp_ne (tgt := 76) hx hb dX4_stopAndSlide_69 (by decide) (fun c69 => ?_) (fun c69 => ?_)
      · rw [nI_eq (by omega) (by omega)] at c69
        refine lv_aload_n hx hb dX4_stopAndSlide_76 rfl (lv_at hl 3 rfl) ?_
        refine va_get (D := (dC, dI)) (ci := 4) (v := .ref pb) (C := RX4) (T := TX4) (N := 10) hx hb hts hi4 hown hK hP 0 rfl rfl 5 (by decide) f26 (fun _ h9 => h9) rfl dX4_stopAndSlide_77 ?_
        refine va_get (D := (dC, dI)) (ci := 0) (v := .long pdy) (C := RX0) (T := TX0) (N := 6) hx hb hts hi0 hown hK hP 1 rfl rfl 5 (by decide) f114 (fun _ h9 => h9) rfl dX4_stopAndSlide_80 ?_
        refine lv_lload hx hb dX4_stopAndSlide_83 (lv_at hl 1 rfl) ?_
        refine lv_lsub hx hb dX4_stopAndSlide_85 ?_
        refine lv_lstore (lv' := [(8, .long (pdy - (pShare zup zlo pdy))), (6, .long 0), (4, .long (pShare zup zlo pdy)), (2, .long (pShare zup zlo pdx)), (0, .ref ob), (1, .ref tr)]) hx hb dX4_stopAndSlide_86 hl (by decide) rfl (fun ls hl => ?_)
        refine lv_aload_n hx hb dX4_stopAndSlide_88 rfl (lv_at hl 4 rfl) ?_
        refine va_get (D := (dC, dI)) (ci := 4) (v := .ref pb) (C := RX4) (T := TX4) (N := 10) hx hb hts hi4 hown hK hP 0 rfl rfl 5 (by decide) f26 (fun _ h9 => h9) rfl dX4_stopAndSlide_89 ?_
        refine lv_lload_n hx hb dX4_stopAndSlide_92 rfl (lv_at hl 3 rfl) ?_
        refine lv_lload hx hb dX4_stopAndSlide_93 (lv_at hl 2 rfl) ?_
        refine kmVv (q0 := 0) (ci := 0) (As := [.long (pShare zup zlo pdx), .long (pShare zup zlo pdy)]) (rest := []) (WC := [(pb, .inr (0, [.long px0, .long py0, .long px1, .long py1, .long pdx, .long pdy]))]) (W2 := [(pb, .inr (0, [.long (px0 + (pShare zup zlo pdx)), .long (py0 + (pShare zup zlo pdy)), .long (px1 + (pShare zup zlo pdx)), .long (py1 + (pShare zup zlo pdy)), .long pdx, .long pdy]))]) (WR := [(ob, .inr (4, [.ref ahl, .int (nI nh), .ref abl, .int (nI nb), .ref asr, .ref pb, .ref atr, .int (nI nt), .ref tb, .ref mt])), (tr, .inr (3, [.long zx, .long zy, .int (nI 0), .int (nI ztm), .long zup, .long zlo]))]) (WN := [(ob, .inr (4, [.ref ahl, .int (nI nh), .ref abl, .int (nI nb), .ref asr, .ref pb, .ref atr, .int (nI nt), .ref tb, .ref mt])), (pb, .inr (0, [.long (px0 + (pShare zup zlo pdx)), .long (py0 + (pShare zup zlo pdy)), .long (px1 + (pShare zup zlo pdx)), .long (py1 + (pShare zup zlo pdy)), .long pdx, .long pdy])), (tr, .inr (3, [.long zx, .long zy, .int (nI 0), .int (nI ztm), .long zup, .long zlo]))]) (tyC := []) (isC := [1]) (isR := [0, 2]) (isN := [0, 2, 1]) (its := []) ⟨hx, hb, hml, hown, hts⟩ (tX0_shift l dC dI pb px0 py0 px1 py1 pdx pdy (pShare zup zlo pdx) (pShare zup zlo pdy)) (cwV 2 hts gX4_stopAndSlide_X0_shift rfl rfl rfl (by decide +kernel) ⟨Nat.le_of_ble_eq_true rfl, Nat.le_of_ble_eq_true rfl⟩) hP hD hA hS hK rfl (by decide) rfl (by decide) (by decide) rfl (by decide) rfl rfl rfl rfl rfl hl.1 (Nat.le_of_ble_eq_true rfl) dX4_stopAndSlide_95 ⟨Nat.le_of_ble_eq_true rfl, Nat.le_of_ble_eq_true rfl⟩ (fun H locs hP hD hS => ?_)
        refine lv_aload_n hx hb dX4_stopAndSlide_98 rfl (lv_at hl 4 rfl) ?_
        refine va_get (D := (dC, dI)) (ci := 4) (v := .ref pb) (C := RX4) (T := TX4) (N := 10) hx hb hts hi4 hown hK hP 0 rfl rfl 5 (by decide) f26 (fun _ h9 => h9) rfl dX4_stopAndSlide_99 ?_
        refine lv_lload hx hb dX4_stopAndSlide_102 (lv_at hl 1 rfl) ?_
        refine lv_lload hx hb dX4_stopAndSlide_104 (lv_at hl 0 rfl) ?_
        refine kmVv (q0 := 0) (ci := 0) (As := [.long 0, .long (pdy - (pShare zup zlo pdy))]) (rest := []) (WC := [(pb, .inr (0, [.long (px0 + (pShare zup zlo pdx)), .long (py0 + (pShare zup zlo pdy)), .long (px1 + (pShare zup zlo pdx)), .long (py1 + (pShare zup zlo pdy)), .long pdx, .long pdy]))]) (W2 := [(pb, .inr (0, [.long (px0 + (pShare zup zlo pdx)), .long (py0 + (pShare zup zlo pdy)), .long (px1 + (pShare zup zlo pdx)), .long (py1 + (pShare zup zlo pdy)), .long 0, .long (pdy - (pShare zup zlo pdy))]))]) (WR := [(ob, .inr (4, [.ref ahl, .int (nI nh), .ref abl, .int (nI nb), .ref asr, .ref pb, .ref atr, .int (nI nt), .ref tb, .ref mt])), (tr, .inr (3, [.long zx, .long zy, .int (nI 0), .int (nI ztm), .long zup, .long zlo]))]) (WN := [(ob, .inr (4, [.ref ahl, .int (nI nh), .ref abl, .int (nI nb), .ref asr, .ref pb, .ref atr, .int (nI nt), .ref tb, .ref mt])), (pb, .inr (0, [.long (px0 + (pShare zup zlo pdx)), .long (py0 + (pShare zup zlo pdy)), .long (px1 + (pShare zup zlo pdx)), .long (py1 + (pShare zup zlo pdy)), .long 0, .long (pdy - (pShare zup zlo pdy))])), (tr, .inr (3, [.long zx, .long zy, .int (nI 0), .int (nI ztm), .long zup, .long zlo]))]) (tyC := []) (isC := [1]) (isR := [0, 2]) (isN := [0, 2, 1]) (its := []) ⟨hx, hb, hml, hown, hts⟩ (tX0_head l dC dI pb (px0 + (pShare zup zlo pdx)) (py0 + (pShare zup zlo pdy)) (px1 + (pShare zup zlo pdx)) (py1 + (pShare zup zlo pdy)) pdx pdy 0 (pdy - (pShare zup zlo pdy))) (cwV 2 hts gX4_stopAndSlide_X0_head rfl rfl rfl (by decide +kernel) ⟨Nat.le_of_ble_eq_true rfl, Nat.le_of_ble_eq_true rfl⟩) hP hD hA hS hK rfl (by decide) rfl (by decide) (by decide) rfl (by decide) rfl rfl rfl rfl rfl hl.1 (Nat.le_of_ble_eq_true rfl) dX4_stopAndSlide_106 ⟨Nat.le_of_ble_eq_true rfl, Nat.le_of_ble_eq_true rfl⟩ (fun H locs hP hD hS => ?_)
        have hq0 : (gRx (oA px0 px1 pdx zup zlo ztm) pdx (pShare zup zlo pdx)) = 0 := (by rw [show (oA px0 px1 pdx zup zlo ztm) = 0 from by unfold oA; rw [c6]]; rfl)
        have hq1 : (gRy (oA px0 px1 pdx zup zlo ztm) pdy (pShare zup zlo pdy)) = (pdy - (pShare zup zlo pdy)) := (by rw [show (oA px0 px1 pdx zup zlo ztm) = 0 from by unfold oA; rw [c6]]; rfl)
        have hq2 : (axI (oA px0 px1 pdx zup zlo ztm)) = (nI 0) := (by rw [show (oA px0 px1 pdx zup zlo ztm) = 0 from by unfold oA; rw [c6]]; rfl)
        have hw : ([(ob, .inr (4, [.ref ahl, .int (nI nh), .ref abl, .int (nI nb), .ref asr, .ref pb, .ref atr, .int (nI nt), .ref tb, .ref mt])), (pb, .inr (0, [.long (px0 + (pShare zup zlo pdx)), .long (py0 + (pShare zup zlo pdy)), .long (px1 + (pShare zup zlo pdx)), .long (py1 + (pShare zup zlo pdy)), .long 0, .long (pdy - (pShare zup zlo pdy))])), (tr, .inr (3, [.long zx, .long zy, .int (nI 0), .int (nI ztm), .long zup, .long zlo]))] : va_W) = [(ob, .inr (4, [.ref ahl, .int (nI nh), .ref abl, .int (nI nb), .ref asr, .ref pb, .ref atr, .int (nI nt), .ref tb, .ref mt])), (pb, .inr (0, [.long (px0 + (pShare zup zlo pdx)), .long (py0 + (pShare zup zlo pdy)), .long (px1 + (pShare zup zlo pdx)), .long (py1 + (pShare zup zlo pdy)), .long (gRx (oA px0 px1 pdx zup zlo ztm) pdx (pShare zup zlo pdx)), .long (gRy (oA px0 px1 pdx zup zlo ztm) pdy (pShare zup zlo pdy))])), (tr, .inr (3, [.long zx, .long zy, .int (axI (oA px0 px1 pdx zup zlo ztm)), .int (nI ztm), .long zup, .long zlo]))] := by rw [hq0, hq1, hq2]
        rw [hw] at hP hD
        exact kEv hx hb hr hlocks hP hK hD hS dX4_stopAndSlide_109
      · skip
        exact absurd c69 (by decide)
  · replace c6 := bI_n c6
    refine lv_iconst (v := (nI 1)) hx hb dX4_stopAndSlide_9 (by decide) ?_
    refine lv_goto (tgt := 14) hx hb dX4_stopAndSlide_10 (by decide) ?_
    refine va_put (D := (dC, dI)) (ci := 3) (v := .int (nI 1)) (ty := .int) (C := RX3) (T := TX3) (N := 6) hx hb hts hi3 tyX3 tyX3_ok nmX3 hown hK hP hD hS 2 rfl rfl 2 (by decide) f190 (fun _ h9 => h9) rfl (by decide +kernel) rfl rfl (Nat.le_of_ble_eq_true rfl) dX4_stopAndSlide_14 (fun H locs hP hD hS => ?_)
    have hP : va_P (dC, dI) vwCl [(ob, .inr (4, [.ref ahl, .int (nI nh), .ref abl, .int (nI nb), .ref asr, .ref pb, .ref atr, .int (nI nt), .ref tb, .ref mt])), (pb, .inr (0, [.long px0, .long py0, .long px1, .long py1, .long pdx, .long pdy])), (tr, .inr (3, [.long zx, .long zy, .int (nI 1), .int (nI ztm), .long zup, .long zlo]))] H := hP
    have hD : va_D A [(ob, .inr (4, [.ref ahl, .int (nI nh), .ref abl, .int (nI nb), .ref asr, .ref pb, .ref atr, .int (nI nt), .ref tb, .ref mt])), (pb, .inr (0, [.long px0, .long py0, .long px1, .long py1, .long pdx, .long pdy])), (tr, .inr (3, [.long zx, .long zy, .int (nI 1), .int (nI ztm), .long zup, .long zlo]))] := hD
    refine lv_aload_n hx hb dX4_stopAndSlide_17 rfl (lv_at hl 1 rfl) ?_
    refine lv_aload_n hx hb dX4_stopAndSlide_18 rfl (lv_at hl 0 rfl) ?_
    refine va_get (D := (dC, dI)) (ci := 4) (v := .ref pb) (C := RX4) (T := TX4) (N := 10) hx hb hts hi4 hown hK hP 0 rfl rfl 5 (by decide) f26 (fun _ h9 => h9) rfl dX4_stopAndSlide_19 ?_
    refine va_get (D := (dC, dI)) (ci := 0) (v := .long pdx) (C := RX0) (T := TX0) (N := 6) hx hb hts hi0 hown hK hP 1 rfl rfl 4 (by decide) f110 (fun _ h9 => h9) rfl dX4_stopAndSlide_22 ?_
    refine kpVl (q0 := 0) (ci := 3) (As := [.long pdx]) (rest := []) (WC := [(tr, .inr (3, [.long zx, .long zy, .int (nI 1), .int (nI ztm), .long zup, .long zlo]))]) (tyC := []) ⟨hx, hb, hml, hown, hts⟩ (tX3_shareOf l dC dI tr zx zy (nI 1) (nI ztm) zup zlo pdx) (cwV 1 hts gX4_stopAndSlide_X3_shareOf rfl rfl rfl (by decide +kernel) ⟨Nat.le_of_ble_eq_true rfl, Nat.le_of_ble_eq_true rfl⟩) (kPick (isC := [2]) hP rfl) (hK.sub [] rfl) rfl rfl rfl rfl hl.1 (Nat.le_of_ble_eq_true rfl) dX4_stopAndSlide_25 ⟨Nat.le_of_ble_eq_true rfl, Nat.le_of_ble_eq_true rfl⟩ ?_
    refine lv_lstore_n (lv' := [(2, .long (pShare zup zlo pdx)), (0, .ref ob), (1, .ref tr)]) hx hb dX4_stopAndSlide_28 rfl hl (by decide) rfl (fun ls hl => ?_)
    refine lv_aload_n hx hb dX4_stopAndSlide_29 rfl (lv_at hl 2 rfl) ?_
    refine lv_aload_n hx hb dX4_stopAndSlide_30 rfl (lv_at hl 1 rfl) ?_
    refine va_get (D := (dC, dI)) (ci := 4) (v := .ref pb) (C := RX4) (T := TX4) (N := 10) hx hb hts hi4 hown hK hP 0 rfl rfl 5 (by decide) f26 (fun _ h9 => h9) rfl dX4_stopAndSlide_31 ?_
    refine va_get (D := (dC, dI)) (ci := 0) (v := .long pdy) (C := RX0) (T := TX0) (N := 6) hx hb hts hi0 hown hK hP 1 rfl rfl 5 (by decide) f114 (fun _ h9 => h9) rfl dX4_stopAndSlide_34 ?_
    refine kpVl (q0 := 0) (ci := 3) (As := [.long pdy]) (rest := []) (WC := [(tr, .inr (3, [.long zx, .long zy, .int (nI 1), .int (nI ztm), .long zup, .long zlo]))]) (tyC := []) ⟨hx, hb, hml, hown, hts⟩ (tX3_shareOf l dC dI tr zx zy (nI 1) (nI ztm) zup zlo pdy) (cwV 1 hts gX4_stopAndSlide_X3_shareOf rfl rfl rfl (by decide +kernel) ⟨Nat.le_of_ble_eq_true rfl, Nat.le_of_ble_eq_true rfl⟩) (kPick (isC := [2]) hP rfl) (hK.sub [] rfl) rfl rfl rfl rfl hl.1 (Nat.le_of_ble_eq_true rfl) dX4_stopAndSlide_37 ⟨Nat.le_of_ble_eq_true rfl, Nat.le_of_ble_eq_true rfl⟩ ?_
    refine lv_lstore (lv' := [(4, .long (pShare zup zlo pdy)), (2, .long (pShare zup zlo pdx)), (0, .ref ob), (1, .ref tr)]) hx hb dX4_stopAndSlide_40 hl (by decide) rfl (fun ls hl => ?_)
    refine lv_aload_n hx hb dX4_stopAndSlide_42 rfl (lv_at hl 3 rfl) ?_
    refine va_get (D := (dC, dI)) (ci := 3) (v := .int (nI 1)) (C := RX3) (T := TX3) (N := 6) hx hb hts hi3 hown hK hP 2 rfl rfl 2 (by decide) f190 (fun _ h9 => h9) rfl dX4_stopAndSlide_43 ?_
    refine lv_if_ne (tgt := 53) hx hb dX4_stopAndSlide_46 (by decide) (fun c46 => ?_) (fun c46 => ?_)
    · rw [← nI_0, nI_eq (by omega) (by omega)] at c46
      refine lv_aload_n hx hb dX4_stopAndSlide_53 rfl (lv_at hl 2 rfl) ?_
      refine va_get (D := (dC, dI)) (ci := 4) (v := .ref pb) (C := RX4) (T := TX4) (N := 10) hx hb hts hi4 hown hK hP 0 rfl rfl 5 (by decide) f26 (fun _ h9 => h9) rfl dX4_stopAndSlide_54 ?_
      refine va_get (D := (dC, dI)) (ci := 0) (v := .long pdx) (C := RX0) (T := TX0) (N := 6) hx hb hts hi0 hown hK hP 1 rfl rfl 4 (by decide) f110 (fun _ h9 => h9) rfl dX4_stopAndSlide_57 ?_
      refine lv_lload_n hx hb dX4_stopAndSlide_60 rfl (lv_at hl 1 rfl) ?_
      refine lv_lsub hx hb dX4_stopAndSlide_61 ?_
      refine lv_lstore (lv' := [(6, .long (pdx - (pShare zup zlo pdx))), (4, .long (pShare zup zlo pdy)), (2, .long (pShare zup zlo pdx)), (0, .ref ob), (1, .ref tr)]) hx hb dX4_stopAndSlide_62 hl (by decide) rfl (fun ls hl => ?_)
      refine lv_aload_n hx hb dX4_stopAndSlide_64 rfl (lv_at hl 4 rfl) ?_
      refine va_get (D := (dC, dI)) (ci := 3) (v := .int (nI 1)) (C := RX3) (T := TX3) (N := 6) hx hb hts hi3 hown hK hP 2 rfl rfl 2 (by decide) f190 (fun _ h9 => h9) rfl dX4_stopAndSlide_65 ?_
      refine lv_iconst (v := (nI 1)) hx hb dX4_stopAndSlide_68 (by decide) ?_
      refine lv_icmp_ne (tgt := 76) hx hb dX4_stopAndSlide_69 (by decide) (fun c69 => ?_) (fun c69 => ?_)
      · skip
        exact absurd c69 (by decide)
      · rw [nI_eq (by omega) (by omega)] at c69
        refine lv_lconst (v := 0) hx hb dX4_stopAndSlide_72 (by decide) ?_
        refine lv_goto (tgt := 86) hx hb dX4_stopAndSlide_73 (by decide) ?_
        refine lv_lstore (lv' := [(8, .long 0), (6, .long (pdx - (pShare zup zlo pdx))), (4, .long (pShare zup zlo pdy)), (2, .long (pShare zup zlo pdx)), (0, .ref ob), (1, .ref tr)]) hx hb dX4_stopAndSlide_86 hl (by decide) rfl (fun ls hl => ?_)
        refine lv_aload_n hx hb dX4_stopAndSlide_88 rfl (lv_at hl 4 rfl) ?_
        refine va_get (D := (dC, dI)) (ci := 4) (v := .ref pb) (C := RX4) (T := TX4) (N := 10) hx hb hts hi4 hown hK hP 0 rfl rfl 5 (by decide) f26 (fun _ h9 => h9) rfl dX4_stopAndSlide_89 ?_
        refine lv_lload_n hx hb dX4_stopAndSlide_92 rfl (lv_at hl 3 rfl) ?_
        refine lv_lload hx hb dX4_stopAndSlide_93 (lv_at hl 2 rfl) ?_
        refine kmVv (q0 := 0) (ci := 0) (As := [.long (pShare zup zlo pdx), .long (pShare zup zlo pdy)]) (rest := []) (WC := [(pb, .inr (0, [.long px0, .long py0, .long px1, .long py1, .long pdx, .long pdy]))]) (W2 := [(pb, .inr (0, [.long (px0 + (pShare zup zlo pdx)), .long (py0 + (pShare zup zlo pdy)), .long (px1 + (pShare zup zlo pdx)), .long (py1 + (pShare zup zlo pdy)), .long pdx, .long pdy]))]) (WR := [(ob, .inr (4, [.ref ahl, .int (nI nh), .ref abl, .int (nI nb), .ref asr, .ref pb, .ref atr, .int (nI nt), .ref tb, .ref mt])), (tr, .inr (3, [.long zx, .long zy, .int (nI 1), .int (nI ztm), .long zup, .long zlo]))]) (WN := [(ob, .inr (4, [.ref ahl, .int (nI nh), .ref abl, .int (nI nb), .ref asr, .ref pb, .ref atr, .int (nI nt), .ref tb, .ref mt])), (pb, .inr (0, [.long (px0 + (pShare zup zlo pdx)), .long (py0 + (pShare zup zlo pdy)), .long (px1 + (pShare zup zlo pdx)), .long (py1 + (pShare zup zlo pdy)), .long pdx, .long pdy])), (tr, .inr (3, [.long zx, .long zy, .int (nI 1), .int (nI ztm), .long zup, .long zlo]))]) (tyC := []) (isC := [1]) (isR := [0, 2]) (isN := [0, 2, 1]) (its := []) ⟨hx, hb, hml, hown, hts⟩ (tX0_shift l dC dI pb px0 py0 px1 py1 pdx pdy (pShare zup zlo pdx) (pShare zup zlo pdy)) (cwV 2 hts gX4_stopAndSlide_X0_shift rfl rfl rfl (by decide +kernel) ⟨Nat.le_of_ble_eq_true rfl, Nat.le_of_ble_eq_true rfl⟩) hP hD hA hS hK rfl (by decide) rfl (by decide) (by decide) rfl (by decide) rfl rfl rfl rfl rfl hl.1 (Nat.le_of_ble_eq_true rfl) dX4_stopAndSlide_95 ⟨Nat.le_of_ble_eq_true rfl, Nat.le_of_ble_eq_true rfl⟩ (fun H locs hP hD hS => ?_)
        refine lv_aload_n hx hb dX4_stopAndSlide_98 rfl (lv_at hl 4 rfl) ?_
        refine va_get (D := (dC, dI)) (ci := 4) (v := .ref pb) (C := RX4) (T := TX4) (N := 10) hx hb hts hi4 hown hK hP 0 rfl rfl 5 (by decide) f26 (fun _ h9 => h9) rfl dX4_stopAndSlide_99 ?_
        refine lv_lload hx hb dX4_stopAndSlide_102 (lv_at hl 1 rfl) ?_
        refine lv_lload hx hb dX4_stopAndSlide_104 (lv_at hl 0 rfl) ?_
        refine kmVv (q0 := 0) (ci := 0) (As := [.long (pdx - (pShare zup zlo pdx)), .long 0]) (rest := []) (WC := [(pb, .inr (0, [.long (px0 + (pShare zup zlo pdx)), .long (py0 + (pShare zup zlo pdy)), .long (px1 + (pShare zup zlo pdx)), .long (py1 + (pShare zup zlo pdy)), .long pdx, .long pdy]))]) (W2 := [(pb, .inr (0, [.long (px0 + (pShare zup zlo pdx)), .long (py0 + (pShare zup zlo pdy)), .long (px1 + (pShare zup zlo pdx)), .long (py1 + (pShare zup zlo pdy)), .long (pdx - (pShare zup zlo pdx)), .long 0]))]) (WR := [(ob, .inr (4, [.ref ahl, .int (nI nh), .ref abl, .int (nI nb), .ref asr, .ref pb, .ref atr, .int (nI nt), .ref tb, .ref mt])), (tr, .inr (3, [.long zx, .long zy, .int (nI 1), .int (nI ztm), .long zup, .long zlo]))]) (WN := [(ob, .inr (4, [.ref ahl, .int (nI nh), .ref abl, .int (nI nb), .ref asr, .ref pb, .ref atr, .int (nI nt), .ref tb, .ref mt])), (pb, .inr (0, [.long (px0 + (pShare zup zlo pdx)), .long (py0 + (pShare zup zlo pdy)), .long (px1 + (pShare zup zlo pdx)), .long (py1 + (pShare zup zlo pdy)), .long (pdx - (pShare zup zlo pdx)), .long 0])), (tr, .inr (3, [.long zx, .long zy, .int (nI 1), .int (nI ztm), .long zup, .long zlo]))]) (tyC := []) (isC := [1]) (isR := [0, 2]) (isN := [0, 2, 1]) (its := []) ⟨hx, hb, hml, hown, hts⟩ (tX0_head l dC dI pb (px0 + (pShare zup zlo pdx)) (py0 + (pShare zup zlo pdy)) (px1 + (pShare zup zlo pdx)) (py1 + (pShare zup zlo pdy)) pdx pdy (pdx - (pShare zup zlo pdx)) 0) (cwV 2 hts gX4_stopAndSlide_X0_head rfl rfl rfl (by decide +kernel) ⟨Nat.le_of_ble_eq_true rfl, Nat.le_of_ble_eq_true rfl⟩) hP hD hA hS hK rfl (by decide) rfl (by decide) (by decide) rfl (by decide) rfl rfl rfl rfl rfl hl.1 (Nat.le_of_ble_eq_true rfl) dX4_stopAndSlide_106 ⟨Nat.le_of_ble_eq_true rfl, Nat.le_of_ble_eq_true rfl⟩ (fun H locs hP hD hS => ?_)
        have hq0 : (gRx (oA px0 px1 pdx zup zlo ztm) pdx (pShare zup zlo pdx)) = (pdx - (pShare zup zlo pdx)) := (by rw [show (oA px0 px1 pdx zup zlo ztm) = 1 from by unfold oA; rw [c6]]; rfl)
        have hq1 : (gRy (oA px0 px1 pdx zup zlo ztm) pdy (pShare zup zlo pdy)) = 0 := (by rw [show (oA px0 px1 pdx zup zlo ztm) = 1 from by unfold oA; rw [c6]]; rfl)
        have hq2 : (axI (oA px0 px1 pdx zup zlo ztm)) = (nI 1) := (by rw [show (oA px0 px1 pdx zup zlo ztm) = 1 from by unfold oA; rw [c6]]; rfl)
        have hw : ([(ob, .inr (4, [.ref ahl, .int (nI nh), .ref abl, .int (nI nb), .ref asr, .ref pb, .ref atr, .int (nI nt), .ref tb, .ref mt])), (pb, .inr (0, [.long (px0 + (pShare zup zlo pdx)), .long (py0 + (pShare zup zlo pdy)), .long (px1 + (pShare zup zlo pdx)), .long (py1 + (pShare zup zlo pdy)), .long (pdx - (pShare zup zlo pdx)), .long 0])), (tr, .inr (3, [.long zx, .long zy, .int (nI 1), .int (nI ztm), .long zup, .long zlo]))] : va_W) = [(ob, .inr (4, [.ref ahl, .int (nI nh), .ref abl, .int (nI nb), .ref asr, .ref pb, .ref atr, .int (nI nt), .ref tb, .ref mt])), (pb, .inr (0, [.long (px0 + (pShare zup zlo pdx)), .long (py0 + (pShare zup zlo pdy)), .long (px1 + (pShare zup zlo pdx)), .long (py1 + (pShare zup zlo pdy)), .long (gRx (oA px0 px1 pdx zup zlo ztm) pdx (pShare zup zlo pdx)), .long (gRy (oA px0 px1 pdx zup zlo ztm) pdy (pShare zup zlo pdy))])), (tr, .inr (3, [.long zx, .long zy, .int (axI (oA px0 px1 pdx zup zlo ztm)), .int (nI ztm), .long zup, .long zlo]))] := by rw [hq0, hq1, hq2]
        rw [hw] at hP hD
        exact kEv hx hb hr hlocks hP hK hD hS dX4_stopAndSlide_109
    · skip
      exact absurd c46 (by decide)
