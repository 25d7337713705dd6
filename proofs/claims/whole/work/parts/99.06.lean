/-! the law's helpers -/
def bL (b : Bool) : Int64 := if b then 1 else 0
section KG
variable {p : Program} {l : Launch} {e : Env} {R : Room} {s : State} {m : MethodId} {args : Array Value} {below : List Frame} {meth : Method} {c : Code} {H : Heap} {locs : List Loc} {cells slots : Nat} {cc : ByteArray} {pc : Nat} {ls : Array Slot} {D : va_G} {tys : List (ClassId × FieldType)} {A : Nat → Prop}
theorem kGi {Q : Int32 → va_W → Prop} {w : va_W} {v : Int32} (hx : p.tables.exec = Jvm.exec) (hb : c.code = cc) (hr : meth.sig.returnType = some .int) (hlocks : meth.locks = false) (hq : Q v w) (hP : va_P D vwCl w H) (hK : va_K D vwCl tys s) (hD : va_D A w) (hS : va_S A s.heap H locs) (hd : decode cc pc = .ok (.ireturn, 1)) :
    W p l e R s m args below meth c H locs cells slots (MQ below (va_Qi Q (kEx D (fun w : va_W => w) tys A) A) args s cells slots A) (F0 m pc ls [.int v]) :=
  W.iret hx hb hr (fun t ht hW => ⟨⟨v, w, rfl, hq, by rw [ht]; exact hP, va_K.moved hW.alike hK, hD⟩, hS.F ht⟩) hS.2.2 hd hlocks
end KG
set_option maxHeartbeats 1000000 in
theorem hR_shape (l : Launch) (dC : Nat → ClassId) (dI : Nat → Nat → Nat) (cJ cI cZ cH cB cT : ClassId) (out ob om ahl abl asr pb atr tb mt : Nat) (fhl fbl ftr : Nat → Option Nat) (hA_ : Nat → Nat × Nat × Nat × Nat × Nat) (bA_ tA_ : Nat → Nat) (apx apy act asd amv asl apl asw aor aon atw aup alw : Nat) (fo : Nat → Int64) (c : CD) (cd : Nat) (ee : ED) (zz : ZD)  (res : Int32) (Pc : CD → Prop) (hM : GMi l yX4_shape wsX4_shape rmR [.ref ob] (dC, dI) (LWd cJ cI cZ cH cB cT out ob om ahl abl asr pb atr tb mt fhl fbl ftr hA_ bA_ tA_ apx apy act asd amv asl apl asw aor aon atw aup alw fo c cd ee zz) (tysL cJ cI cZ cH cB cT) (fun r_ w_ => r_ = res ∧ ∃ c', Pc c' ∧ w_ = (LWd cJ cI cZ cH cB cT out ob om ahl abl asr pb atr tb mt fhl fbl ftr hA_ bA_ tA_ apx apy act asd amv asl apl asw aor aon atw aup alw fo c' cd ee zz))) : GHi l yL_shape wsL_shape rmH [.ref ob, .ref out] (dC, dI) (LWd cJ cI cZ cH cB cT out ob om ahl abl asr pb atr tb mt fhl fbl ftr hA_ bA_ tA_ apx apy act asd amv asl apl asw aor aon atw aup alw fo c cd ee zz) (tysL cJ cI cZ cH cB cT) (fun r_ w_ => r_ = nI 0 ∧ ∃ c', Pc c' ∧ w_ = (LWd cJ cI cZ cH cB cT out ob om ahl abl asr pb atr tb mt fhl fbl ftr hA_ bA_ tA_ apx apy act asd amv asl apl asw aor aon atw aup alw (vp_updL fo 0 res.toInt64) c' cd ee zz)) := by
  intro sz
  refine kOfH (cc := cL_shape) (maxL := 3) (ret := some .int) (hh := [(0, 8, 11, 13)]) (by decide +kernel) rfl (Nat.le_of_ble_eq_true rfl) ?_
  intro p e s m below meth c_ hx hb hr hml hts hown hlocks htab hB ls hl
  obtain ⟨⟨⟨hsz, hP, hK, hD0⟩, hT⟩, hnc⟩ := hB
  subst hsz
  have hD := hD0.self (sz := s.heap.size)
  generalize hAe : va_A (LWd cJ cI cZ cH cB cT out ob om ahl abl asr pb atr tb mt fhl fbl ftr hA_ bA_ tA_ apx apy act asd amv asl apl asw aor aon atw aup alw fo c cd ee zz) s.heap.size = A at hD hT ⊢
  have hA : ∀ q : Nat, s.heap.size ≤ q → A q := fun q h => by rw [← hAe]; exact Or.inr h
  have hS : va_S A s.heap s.heap [] := va_S.rf
  have hl : lv_has ls 3 [(0, .ref ob), (1, .ref out)] := hl
  refine lv_aload_n hx hb dL_shape_0 rfl (lv_at hl 1 rfl) ?_
  refine lv_iconst (v := (nI 0)) hx hb dL_shape_1 (by decide) ?_
  refine lv_aload_n hx hb dL_shape_2 rfl (lv_at hl 0 rfl) ?_
  refine gVi (ci := 4) (q0 := 1) (As := []) (rest := [.int (nI 0), .ref out]) ⟨hx, hb, hml, hown, hts⟩ hM (cwV 0 hts gL_shape_X4_shape rfl rfl rfl (by decide +kernel) ⟨Nat.le_of_ble_eq_true rfl, Nat.le_of_ble_eq_true rfl⟩) hP hD hA hS hK rfl rfl rfl rfl hl.1 (Nat.le_of_ble_eq_true rfl) dL_shape_3 ⟨Nat.le_of_ble_eq_true rfl, Nat.le_of_ble_eq_true rfl⟩ (fun r B2 H locs hq hP hD hS => ?_)
  obtain ⟨hres, c1, hc1, rfl⟩ := hq
  replace hres := hres.symm
  subst hres
  refine lv_i2l (v := res.toInt64) hx hb dL_shape_6 rfl ?_
  refine va_last hx hb hK hP hD hS 0 0 rfl rfl (vp_in_nI (show 0 < 1 by omega) (by omega)) dL_shape_7 (fun H locs hP hD hS => ?_)
  rw [show (nI 0).toNatClampNeg = 0 from nI_clamp (show 0 < 2 ^ 31 by omega)] at hP hD
  refine lv_goto (tgt := 14) hx hb dL_shape_8 (by decide) ?_
  refine lv_iconst (v := (nI 0)) hx hb dL_shape_14 (by decide) ?_
  refine W.widen (k := 1) (n := 6) (by decide) (by decide) ?_
  exact kGi (w := (LWd cJ cI cZ cH cB cT out ob om ahl abl asr pb atr tb mt fhl fbl ftr hA_ bA_ tA_ apx apy act asd amv asl apl asw aor aon atw aup alw (vp_updL fo 0 res.toInt64) c1 cd ee zz)) hx hb hr hlocks ⟨rfl, c1, hc1, rfl⟩ hP hK hD hS dL_shape_15
set_option maxHeartbeats 1000000 in
theorem hT_shape_1 (l : Launch) (dC : Nat → ClassId) (dI : Nat → Nat → Nat) (cJ cI cZ cH cB cT : ClassId) (out ob om ahl abl asr pb atr tb mt : Nat) (fhl fbl ftr : Nat → Option Nat) (hA_ : Nat → Nat × Nat × Nat × Nat × Nat) (bA_ tA_ : Nat → Nat) (apx apy act asd amv asl apl asw aor aon atw aup alw : Nat) (fo : Nat → Int64) (c : CD) (cd : Nat) (ee : ED) (zz : ZD)  (Pc : CD → Prop) (hM : GTx l yX4_shape wsX4_shape rmT [.ref ob] (dC, dI) (LWd cJ cI cZ cH cB cT out ob om ahl abl asr pb atr tb mt fhl fbl ftr hA_ bA_ tA_ apx apy act asd amv asl apl asw aor aon atw aup alw fo c cd ee zz) (tysL cJ cI cZ cH cB cT) "java/lang/IllegalStateException" (fun w_ => ∃ c', Pc c' ∧ w_ = (LWd cJ cI cZ cH cB cT out ob om ahl abl asr pb atr tb mt fhl fbl ftr hA_ bA_ tA_ apx apy act asd amv asl apl asw aor aon atw aup alw fo c' cd ee zz)) (fun A => va_Qi (fun _ (_ : Unit) => False) (fun _ _ => True) A)) : GHi l yL_shape wsL_shape rmH [.ref ob, .ref out] (dC, dI) (LWd cJ cI cZ cH cB cT out ob om ahl abl asr pb atr tb mt fhl fbl ftr hA_ bA_ tA_ apx apy act asd amv asl apl asw aor aon atw aup alw fo c cd ee zz) (tysL cJ cI cZ cH cB cT) (fun r_ w_ => r_ = nI 1 ∧ ∃ c', Pc c' ∧ w_ = (LWd cJ cI cZ cH cB cT out ob om ahl abl asr pb atr tb mt fhl fbl ftr hA_ bA_ tA_ apx apy act asd amv asl apl asw aor aon atw aup alw fo c' cd ee zz)) := by
  intro sz
  refine kOfH (cc := cL_shape) (maxL := 3) (ret := some .int) (hh := [(0, 8, 11, 13)]) (by decide +kernel) rfl (Nat.le_of_ble_eq_true rfl) ?_
  intro p e s m below meth c_ hx hb hr hml hts hown hlocks htab hB ls hl
  obtain ⟨⟨⟨hsz, hP, hK, hD0⟩, hT⟩, hnc⟩ := hB
  subst hsz
  have hD := hD0.self (sz := s.heap.size)
  generalize hAe : va_A (LWd cJ cI cZ cH cB cT out ob om ahl abl asr pb atr tb mt fhl fbl ftr hA_ bA_ tA_ apx apy act asd amv asl apl asw aor aon atw aup alw fo c cd ee zz) s.heap.size = A at hD hT ⊢
  have hA : ∀ q : Nat, s.heap.size ≤ q → A q := fun q h => by rw [← hAe]; exact Or.inr h
  have hS : va_S A s.heap s.heap [] := va_S.rf
  have hl : lv_has ls 3 [(0, .ref ob), (1, .ref out)] := hl
  refine lv_aload_n hx hb dL_shape_0 rfl (lv_at hl 1 rfl) ?_
  refine lv_iconst (v := (nI 0)) hx hb dL_shape_1 (by decide) ?_
  refine lv_aload_n hx hb dL_shape_2 rfl (lv_at hl 0 rfl) ?_
  refine gXi (ci := 4) (q0 := 1) (As := []) (rest := [.int (nI 0), .ref out]) ⟨hx, hb, hml, hown, hts⟩ hM (cwV 0 hts gL_shape_X4_shape rfl rfl rfl (by decide +kernel) ⟨Nat.le_of_ble_eq_true rfl, Nat.le_of_ble_eq_true rfl⟩) hP hD hA hS hK hT rfl rfl rfl rfl hl.1 (Nat.le_of_ble_eq_true rfl) dL_shape_3 ⟨Nat.le_of_ble_eq_true rfl, Nat.le_of_ble_eq_true rfl⟩ hown [] ⟨0, 8, 11, 13⟩ [] htab (fun z hz => absurd hz List.not_mem_nil) (by decide) (by decide) (hts (.classLink RL 13 "java/lang/IllegalStateException") (by decide +kernel)) (cast_at (hT.2.2.2 _ (List.mem_of_getElem? (i := 0) rfl))) (fun B2 H locs q9 hq hP hD hS => ?_)
  obtain ⟨c1, hc1, rfl⟩ := hq
  refine lv_astore_n (lv' := [(2, .ref q9), (0, .ref ob), (1, .ref out)]) hx hb dL_shape_11 rfl hl (by decide) rfl (fun ls hl => ?_)
  refine lv_iconst (v := (nI 1)) hx hb dL_shape_12 (by decide) ?_
  exact kGi (w := (LWd cJ cI cZ cH cB cT out ob om ahl abl asr pb atr tb mt fhl fbl ftr hA_ bA_ tA_ apx apy act asd amv asl apl asw aor aon atw aup alw fo c1 cd ee zz)) hx hb hr hlocks ⟨rfl, c1, hc1, rfl⟩ hP hK hD hS dL_shape_13
set_option maxHeartbeats 1000000 in
theorem hR_point (l : Launch) (dC : Nat → ClassId) (dI : Nat → Nat → Nat) (cJ cI cZ cH cB cT : ClassId) (out ob om ahl abl asr pb atr tb mt : Nat) (fhl fbl ftr : Nat → Option Nat) (hA_ : Nat → Nat × Nat × Nat × Nat × Nat) (bA_ tA_ : Nat → Nat) (apx apy act asd amv asl apl asw aor aon atw aup alw : Nat) (fo : Nat → Int64) (c : CD) (cd : Nat) (ee : ED) (zz : ZD) (a0 : Int32) (a1 : Int64) (a2 : Int64) (bb : Bool) (Pc : CD → Prop) (hM : GMi l yX4_point wsX4_point rmR [.ref ob, .int a0, .long a1, .long a2] (dC, dI) (LWd cJ cI cZ cH cB cT out ob om ahl abl asr pb atr tb mt fhl fbl ftr hA_ bA_ tA_ apx apy act asd amv asl apl asw aor aon atw aup alw fo c cd ee zz) (tysL cJ cI cZ cH cB cT) (fun r_ w_ => r_ = bI bb ∧ ∃ c', Pc c' ∧ w_ = (LWd cJ cI cZ cH cB cT out ob om ahl abl asr pb atr tb mt fhl fbl ftr hA_ bA_ tA_ apx apy act asd amv asl apl asw aor aon atw aup alw fo c' cd ee zz))) : GHi l yL_point wsL_point rmH [.ref ob, .int a0, .long a1, .long a2, .ref out] (dC, dI) (LWd cJ cI cZ cH cB cT out ob om ahl abl asr pb atr tb mt fhl fbl ftr hA_ bA_ tA_ apx apy act asd amv asl apl asw aor aon atw aup alw fo c cd ee zz) (tysL cJ cI cZ cH cB cT) (fun r_ w_ => r_ = nI 0 ∧ ∃ c', Pc c' ∧ w_ = (LWd cJ cI cZ cH cB cT out ob om ahl abl asr pb atr tb mt fhl fbl ftr hA_ bA_ tA_ apx apy act asd amv asl apl asw aor aon atw aup alw (vp_updL fo 0 (bL bb)) c' cd ee zz)) := by
  intro sz
  refine kOfH (cc := cL_point) (maxL := 8) (ret := some .int) (hh := [(0, 20, 23, 19), (0, 20, 27, 13), (0, 20, 31, 21)]) (by decide +kernel) rfl (Nat.le_of_ble_eq_true rfl) ?_
  intro p e s m below meth c_ hx hb hr hml hts hown hlocks htab hB ls hl
  obtain ⟨⟨⟨hsz, hP, hK, hD0⟩, hT⟩, hnc⟩ := hB
  subst hsz
  have hD := hD0.self (sz := s.heap.size)
  generalize hAe : va_A (LWd cJ cI cZ cH cB cT out ob om ahl abl asr pb atr tb mt fhl fbl ftr hA_ bA_ tA_ apx apy act asd amv asl apl asw aor aon atw aup alw fo c cd ee zz) s.heap.size = A at hD hT ⊢
  have hA : ∀ q : Nat, s.heap.size ≤ q → A q := fun q h => by rw [← hAe]; exact Or.inr h
  have hS : va_S A s.heap s.heap [] := va_S.rf
  have hl : lv_has ls 8 [(0, .ref ob), (1, .int a0), (2, .long a1), (4, .long a2), (6, .ref out)] := hl
  refine lv_aload hx hb dL_point_0 (lv_at hl 4 rfl) ?_
  refine lv_iconst (v := (nI 0)) hx hb dL_point_2 (by decide) ?_
  refine lv_aload_n hx hb dL_point_3 rfl (lv_at hl 0 rfl) ?_
  refine lv_iload_n hx hb dL_point_4 rfl (lv_at hl 1 rfl) ?_
  refine lv_lload_n hx hb dL_point_5 rfl (lv_at hl 2 rfl) ?_
  refine lv_lload hx hb dL_point_6 (lv_at hl 3 rfl) ?_
  refine gVi (ci := 4) (q0 := 1) (As := [.int a0, .long a1, .long a2]) (rest := [.int (nI 0), .ref out]) ⟨hx, hb, hml, hown, hts⟩ hM (cwV 3 hts gL_point_X4_point rfl rfl rfl (by decide +kernel) ⟨Nat.le_of_ble_eq_true rfl, Nat.le_of_ble_eq_true rfl⟩) hP hD hA hS hK rfl rfl rfl rfl hl.1 (Nat.le_of_ble_eq_true rfl) dL_point_8 ⟨Nat.le_of_ble_eq_true rfl, Nat.le_of_ble_eq_true rfl⟩ (fun r B2 H locs hq hP hD hS => ?_)
  obtain ⟨hres, c1, hc1, rfl⟩ := hq
  replace hres := hres.symm
  subst hres
  refine lv_if_eq (tgt := 18) hx hb dL_point_11 (by decide) (fun cz => ?_) (fun cz => ?_)
  · have hbb : bb = false := bI_0 cz
    subst hbb
    refine lv_lconst (v := 0) hx hb dL_point_18 (by decide) ?_
    refine va_last hx hb hK hP hD hS 0 0 rfl rfl (vp_in_nI (show 0 < 1 by omega) (by omega)) dL_point_19 (fun H locs hP hD hS => ?_)
    rw [show (nI 0).toNatClampNeg = 0 from nI_clamp (show 0 < 2 ^ 31 by omega)] at hP hD
    refine lv_goto (tgt := 35) hx hb dL_point_20 (by decide) ?_
    refine lv_iconst (v := (nI 0)) hx hb dL_point_35 (by decide) ?_
    refine W.widen (k := 1) (n := 6) (by decide) (by decide) ?_
    exact kGi (w := (LWd cJ cI cZ cH cB cT out ob om ahl abl asr pb atr tb mt fhl fbl ftr hA_ bA_ tA_ apx apy act asd amv asl apl asw aor aon atw aup alw (vp_updL fo 0 (bL false)) c1 cd ee zz)) hx hb hr hlocks ⟨rfl, c1, hc1, rfl⟩ hP hK hD hS dL_point_36
  · have hbb : bb = true := bI_n cz
    subst hbb
    refine lv_lconst (v := 1) hx hb dL_point_14 (by decide) ?_
    refine lv_goto (tgt := 19) hx hb dL_point_15 (by decide) ?_
    refine va_last hx hb hK hP hD hS 0 0 rfl rfl (vp_in_nI (show 0 < 1 by omega) (by omega)) dL_point_19 (fun H locs hP hD hS => ?_)
    rw [show (nI 0).toNatClampNeg = 0 from nI_clamp (show 0 < 2 ^ 31 by omega)] at hP hD
    refine lv_goto (tgt := 35) hx hb dL_point_20 (by decide) ?_
    refine lv_iconst (v := (nI 0)) hx hb dL_point_35 (by decide) ?_
    refine W.widen (k := 1) (n := 6) (by decide) (by decide) ?_
    exact kGi (w := (LWd cJ cI cZ cH cB cT out ob om ahl abl asr pb atr tb mt fhl fbl ftr hA_ bA_ tA_ apx apy act asd amv asl apl asw aor aon atw aup alw (vp_updL fo 0 (bL true)) c1 cd ee zz)) hx hb hr hlocks ⟨rfl, c1, hc1, rfl⟩ hP hK hD hS dL_point_36
set_option maxHeartbeats 1000000 in
theorem hT_point_1 (l : Launch) (dC : Nat → ClassId) (dI : Nat → Nat → Nat) (cJ cI cZ cH cB cT : ClassId) (out ob om ahl abl asr pb atr tb mt : Nat) (fhl fbl ftr : Nat → Option Nat) (hA_ : Nat → Nat × Nat × Nat × Nat × Nat) (bA_ tA_ : Nat → Nat) (apx apy act asd amv asl apl asw aor aon atw aup alw : Nat) (fo : Nat → Int64) (c : CD) (cd : Nat) (ee : ED) (zz : ZD) (a0 : Int32) (a1 : Int64) (a2 : Int64) (Pc : CD → Prop) (hM : GTx l yX4_point wsX4_point rmT [.ref ob, .int a0, .long a1, .long a2] (dC, dI) (LWd cJ cI cZ cH cB cT out ob om ahl abl asr pb atr tb mt fhl fbl ftr hA_ bA_ tA_ apx apy act asd amv asl apl asw aor aon atw aup alw fo c cd ee zz) (tysL cJ cI cZ cH cB cT) "java/lang/IndexOutOfBoundsException" (fun w_ => ∃ c', Pc c' ∧ w_ = (LWd cJ cI cZ cH cB cT out ob om ahl abl asr pb atr tb mt fhl fbl ftr hA_ bA_ tA_ apx apy act asd amv asl apl asw aor aon atw aup alw fo c' cd ee zz)) (fun A => va_Qi (fun _ (_ : Unit) => False) (fun _ _ => True) A)) : GHi l yL_point wsL_point rmH [.ref ob, .int a0, .long a1, .long a2, .ref out] (dC, dI) (LWd cJ cI cZ cH cB cT out ob om ahl abl asr pb atr tb mt fhl fbl ftr hA_ bA_ tA_ apx apy act asd amv asl apl asw aor aon atw aup alw fo c cd ee zz) (tysL cJ cI cZ cH cB cT) (fun r_ w_ => r_ = nI 1 ∧ ∃ c', Pc c' ∧ w_ = (LWd cJ cI cZ cH cB cT out ob om ahl abl asr pb atr tb mt fhl fbl ftr hA_ bA_ tA_ apx apy act asd amv asl apl asw aor aon atw aup alw fo c' cd ee zz)) := by
  intro sz
  refine kOfH (cc := cL_point) (maxL := 8) (ret := some .int) (hh := [(0, 20, 23, 19), (0, 20, 27, 13), (0, 20, 31, 21)]) (by decide +kernel) rfl (Nat.le_of_ble_eq_true rfl) ?_
  intro p e s m below meth c_ hx hb hr hml hts hown hlocks htab hB ls hl
  obtain ⟨⟨⟨hsz, hP, hK, hD0⟩, hT⟩, hnc⟩ := hB
  subst hsz
  have hD := hD0.self (sz := s.heap.size)
  generalize hAe : va_A (LWd cJ cI cZ cH cB cT out ob om ahl abl asr pb atr tb mt fhl fbl ftr hA_ bA_ tA_ apx apy act asd amv asl apl asw aor aon atw aup alw fo c cd ee zz) s.heap.size = A at hD hT ⊢
  have hA : ∀ q : Nat, s.heap.size ≤ q → A q := fun q h => by rw [← hAe]; exact Or.inr h
  have hS : va_S A s.heap s.heap [] := va_S.rf
  have hl : lv_has ls 8 [(0, .ref ob), (1, .int a0), (2, .long a1), (4, .long a2), (6, .ref out)] := hl
  refine lv_aload hx hb dL_point_0 (lv_at hl 4 rfl) ?_
  refine lv_iconst (v := (nI 0)) hx hb dL_point_2 (by decide) ?_
  refine lv_aload_n hx hb dL_point_3 rfl (lv_at hl 0 rfl) ?_
  refine lv_iload_n hx hb dL_point_4 rfl (lv_at hl 1 rfl) ?_
  refine lv_lload_n hx hb dL_point_5 rfl (lv_at hl 2 rfl) ?_
  refine lv_lload hx hb dL_point_6 (lv_at hl 3 rfl) ?_
  refine gXi (ci := 4) (q0 := 1) (As := [.int a0, .long a1, .long a2]) (rest := [.int (nI 0), .ref out]) ⟨hx, hb, hml, hown, hts⟩ hM (cwV 3 hts gL_point_X4_point rfl rfl rfl (by decide +kernel) ⟨Nat.le_of_ble_eq_true rfl, Nat.le_of_ble_eq_true rfl⟩) hP hD hA hS hK hT rfl rfl rfl rfl hl.1 (Nat.le_of_ble_eq_true rfl) dL_point_8 ⟨Nat.le_of_ble_eq_true rfl, Nat.le_of_ble_eq_true rfl⟩ hown [] ⟨0, 20, 23, 19⟩ [⟨0, 20, 27, 13⟩, ⟨0, 20, 31, 21⟩] htab (fun z hz => absurd hz List.not_mem_nil) (by decide) (by decide) (hts (.classLink RL 19 "java/lang/IndexOutOfBoundsException") (by decide +kernel)) (cast_at (hT.2.2.2 _ (List.mem_of_getElem? (i := 1) rfl))) (fun B2 H locs q9 hq hP hD hS => ?_)
  obtain ⟨c1, hc1, rfl⟩ := hq
  refine lv_astore (lv' := [(7, .ref q9), (0, .ref ob), (1, .int a0), (2, .long a1), (4, .long a2), (6, .ref out)]) hx hb dL_point_23 hl (by decide) rfl (fun ls hl => ?_)
  refine lv_iconst (v := (nI 1)) hx hb dL_point_25 (by decide) ?_
  exact kGi (w := (LWd cJ cI cZ cH cB cT out ob om ahl abl asr pb atr tb mt fhl fbl ftr hA_ bA_ tA_ apx apy act asd amv asl apl asw aor aon atw aup alw fo c1 cd ee zz)) hx hb hr hlocks ⟨rfl, c1, hc1, rfl⟩ hP hK hD hS dL_point_26
set_option maxHeartbeats 1000000 in
theorem hT_point_2 (l : Launch) (dC : Nat → ClassId) (dI : Nat → Nat → Nat) (cJ cI cZ cH cB cT : ClassId) (out ob om ahl abl asr pb atr tb mt : Nat) (fhl fbl ftr : Nat → Option Nat) (hA_ : Nat → Nat × Nat × Nat × Nat × Nat) (bA_ tA_ : Nat → Nat) (apx apy act asd amv asl apl asw aor aon atw aup alw : Nat) (fo : Nat → Int64) (c : CD) (cd : Nat) (ee : ED) (zz : ZD) (a0 : Int32) (a1 : Int64) (a2 : Int64) (Pc : CD → Prop) (hM : GTx l yX4_point wsX4_point rmT [.ref ob, .int a0, .long a1, .long a2] (dC, dI) (LWd cJ cI cZ cH cB cT out ob om ahl abl asr pb atr tb mt fhl fbl ftr hA_ bA_ tA_ apx apy act asd amv asl apl asw aor aon atw aup alw fo c cd ee zz) (tysL cJ cI cZ cH cB cT) "java/lang/IllegalStateException" (fun w_ => ∃ c', Pc c' ∧ w_ = (LWd cJ cI cZ cH cB cT out ob om ahl abl asr pb atr tb mt fhl fbl ftr hA_ bA_ tA_ apx apy act asd amv asl apl asw aor aon atw aup alw fo c' cd ee zz)) (fun A => va_Qi (fun _ (_ : Unit) => False) (fun _ _ => True) A)) : GHi l yL_point wsL_point rmH [.ref ob, .int a0, .long a1, .long a2, .ref out] (dC, dI) (LWd cJ cI cZ cH cB cT out ob om ahl abl asr pb atr tb mt fhl fbl ftr hA_ bA_ tA_ apx apy act asd amv asl apl asw aor aon atw aup alw fo c cd ee zz) (tysL cJ cI cZ cH cB cT) (fun r_ w_ => r_ = nI 2 ∧ ∃ c', Pc c' ∧ w_ = (LWd cJ cI cZ cH cB cT out ob om ahl abl asr pb atr tb mt fhl fbl ftr hA_ bA_ tA_ apx apy act asd amv asl apl asw aor aon atw aup alw fo c' cd ee zz)) := by
  intro sz
  refine kOfH (cc := cL_point) (maxL := 8) (ret := some .int) (hh := [(0, 20, 23, 19), (0, 20, 27, 13), (0, 20, 31, 21)]) (by decide +kernel) rfl (Nat.le_of_ble_eq_true rfl) ?_
  intro p e s m below meth c_ hx hb hr hml hts hown hlocks htab hB ls hl
  obtain ⟨⟨⟨hsz, hP, hK, hD0⟩, hT⟩, hnc⟩ := hB
  subst hsz
  have hD := hD0.self (sz := s.heap.size)
  generalize hAe : va_A (LWd cJ cI cZ cH cB cT out ob om ahl abl asr pb atr tb mt fhl fbl ftr hA_ bA_ tA_ apx apy act asd amv asl apl asw aor aon atw aup alw fo c cd ee zz) s.heap.size = A at hD hT ⊢
  have hA : ∀ q : Nat, s.heap.size ≤ q → A q := fun q h => by rw [← hAe]; exact Or.inr h
  have hS : va_S A s.heap s.heap [] := va_S.rf
  have hl : lv_has ls 8 [(0, .ref ob), (1, .int a0), (2, .long a1), (4, .long a2), (6, .ref out)] := hl
  refine lv_aload hx hb dL_point_0 (lv_at hl 4 rfl) ?_
  refine lv_iconst (v := (nI 0)) hx hb dL_point_2 (by decide) ?_
  refine lv_aload_n hx hb dL_point_3 rfl (lv_at hl 0 rfl) ?_
  refine lv_iload_n hx hb dL_point_4 rfl (lv_at hl 1 rfl) ?_
  refine lv_lload_n hx hb dL_point_5 rfl (lv_at hl 2 rfl) ?_
  refine lv_lload hx hb dL_point_6 (lv_at hl 3 rfl) ?_
  refine gXi (ci := 4) (q0 := 1) (As := [.int a0, .long a1, .long a2]) (rest := [.int (nI 0), .ref out]) ⟨hx, hb, hml, hown, hts⟩ hM (cwV 3 hts gL_point_X4_point rfl rfl rfl (by decide +kernel) ⟨Nat.le_of_ble_eq_true rfl, Nat.le_of_ble_eq_true rfl⟩) hP hD hA hS hK hT rfl rfl rfl rfl hl.1 (Nat.le_of_ble_eq_true rfl) dL_point_8 ⟨Nat.le_of_ble_eq_true rfl, Nat.le_of_ble_eq_true rfl⟩ hown [⟨0, 20, 23, 19⟩] ⟨0, 20, 27, 13⟩ [⟨0, 20, 31, 21⟩] htab (List.forall_mem_cons.mpr ⟨Or.inr ⟨by decide, "java/lang/IndexOutOfBoundsException", hts (.classLink RL 19 "java/lang/IndexOutOfBoundsException") (by decide +kernel), hnc.1⟩, (fun z hz => absurd hz List.not_mem_nil)⟩) (by decide) (by decide) (hts (.classLink RL 13 "java/lang/IllegalStateException") (by decide +kernel)) (cast_at (hT.2.2.2 _ (List.mem_of_getElem? (i := 0) rfl))) (fun B2 H locs q9 hq hP hD hS => ?_)
  obtain ⟨c1, hc1, rfl⟩ := hq
  refine lv_astore (lv' := [(7, .ref q9), (0, .ref ob), (1, .int a0), (2, .long a1), (4, .long a2), (6, .ref out)]) hx hb dL_point_27 hl (by decide) rfl (fun ls hl => ?_)
  refine lv_iconst (v := (nI 2)) hx hb dL_point_29 (by decide) ?_
  exact kGi (w := (LWd cJ cI cZ cH cB cT out ob om ahl abl asr pb atr tb mt fhl fbl ftr hA_ bA_ tA_ apx apy act asd amv asl apl asw aor aon atw aup alw fo c1 cd ee zz)) hx hb hr hlocks ⟨rfl, c1, hc1, rfl⟩ hP hK hD hS dL_point_30
set_option maxHeartbeats 1000000 in
theorem hT_point_3 (l : Launch) (dC : Nat → ClassId) (dI : Nat → Nat → Nat) (cJ cI cZ cH cB cT : ClassId) (out ob om ahl abl asr pb atr tb mt : Nat) (fhl fbl ftr : Nat → Option Nat) (hA_ : Nat → Nat × Nat × Nat × Nat × Nat) (bA_ tA_ : Nat → Nat) (apx apy act asd amv asl apl asw aor aon atw aup alw : Nat) (fo : Nat → Int64) (c : CD) (cd : Nat) (ee : ED) (zz : ZD) (a0 : Int32) (a1 : Int64) (a2 : Int64) (Pc : CD → Prop) (hM : GTx l yX4_point wsX4_point rmT [.ref ob, .int a0, .long a1, .long a2] (dC, dI) (LWd cJ cI cZ cH cB cT out ob om ahl abl asr pb atr tb mt fhl fbl ftr hA_ bA_ tA_ apx apy act asd amv asl apl asw aor aon atw aup alw fo c cd ee zz) (tysL cJ cI cZ cH cB cT) "java/lang/IllegalArgumentException" (fun w_ => ∃ c', Pc c' ∧ w_ = (LWd cJ cI cZ cH cB cT out ob om ahl abl asr pb atr tb mt fhl fbl ftr hA_ bA_ tA_ apx apy act asd amv asl apl asw aor aon atw aup alw fo c' cd ee zz)) (fun A => va_Qi (fun _ (_ : Unit) => False) (fun _ _ => True) A)) : GHi l yL_point wsL_point rmH [.ref ob, .int a0, .long a1, .long a2, .ref out] (dC, dI) (LWd cJ cI cZ cH cB cT out ob om ahl abl asr pb atr tb mt fhl fbl ftr hA_ bA_ tA_ apx apy act asd amv asl apl asw aor aon atw aup alw fo c cd ee zz) (tysL cJ cI cZ cH cB cT) (fun r_ w_ => r_ = nI 3 ∧ ∃ c', Pc c' ∧ w_ = (LWd cJ cI cZ cH cB cT out ob om ahl abl asr pb atr tb mt fhl fbl ftr hA_ bA_ tA_ apx apy act asd amv asl apl asw aor aon atw aup alw fo c' cd ee zz)) := by
  intro sz
  refine kOfH (cc := cL_point) (maxL := 8) (ret := some .int) (hh := [(0, 20, 23, 19), (0, 20, 27, 13), (0, 20, 31, 21)]) (by decide +kernel) rfl (Nat.le_of_ble_eq_true rfl) ?_
  intro p e s m below meth c_ hx hb hr hml hts hown hlocks htab hB ls hl
  obtain ⟨⟨⟨hsz, hP, hK, hD0⟩, hT⟩, hnc⟩ := hB
  subst hsz
  have hD := hD0.self (sz := s.heap.size)
  generalize hAe : va_A (LWd cJ cI cZ cH cB cT out ob om ahl abl asr pb atr tb mt fhl fbl ftr hA_ bA_ tA_ apx apy act asd amv asl apl asw aor aon atw aup alw fo c cd ee zz) s.heap.size = A at hD hT ⊢
  have hA : ∀ q : Nat, s.heap.size ≤ q → A q := fun q h => by rw [← hAe]; exact Or.inr h
  have hS : va_S A s.heap s.heap [] := va_S.rf
  have hl : lv_has ls 8 [(0, .ref ob), (1, .int a0), (2, .long a1), (4, .long a2), (6, .ref out)] := hl
  refine lv_aload hx hb dL_point_0 (lv_at hl 4 rfl) ?_
  refine lv_iconst (v := (nI 0)) hx hb dL_point_2 (by decide) ?_
  refine lv_aload_n hx hb dL_point_3 rfl (lv_at hl 0 rfl) ?_
  refine lv_iload_n hx hb dL_point_4 rfl (lv_at hl 1 rfl) ?_
  refine lv_lload_n hx hb dL_point_5 rfl (lv_at hl 2 rfl) ?_
  refine lv_lload hx hb dL_point_6 (lv_at hl 3 rfl) ?_
  refine gXi (ci := 4) (q0 := 1) (As := [.int a0, .long a1, .long a2]) (rest := [.int (nI 0), .ref out]) ⟨hx, hb, hml, hown, hts⟩ hM (cwV 3 hts gL_point_X4_point rfl rfl rfl (by decide +kernel) ⟨Nat.le_of_ble_eq_true rfl, Nat.le_of_ble_eq_true rfl⟩) hP hD hA hS hK hT rfl rfl rfl rfl hl.1 (Nat.le_of_ble_eq_true rfl) dL_point_8 ⟨Nat.le_of_ble_eq_true rfl, Nat.le_of_ble_eq_true rfl⟩ hown [⟨0, 20, 23, 19⟩, ⟨0, 20, 27, 13⟩] ⟨0, 20, 31, 21⟩ [] htab (List.forall_mem_cons.mpr ⟨Or.inr ⟨by decide, "java/lang/IndexOutOfBoundsException", hts (.classLink RL 19 "java/lang/IndexOutOfBoundsException") (by decide +kernel), hnc.2.1⟩, (List.forall_mem_cons.mpr ⟨Or.inr ⟨by decide, "java/lang/IllegalStateException", hts (.classLink RL 13 "java/lang/IllegalStateException") (by decide +kernel), hnc.2.2⟩, (fun z hz => absurd hz List.not_mem_nil)⟩)⟩) (by decide) (by decide) (hts (.classLink RL 21 "java/lang/IllegalArgumentException") (by decide +kernel)) (cast_at (hT.2.2.2 _ (List.mem_of_getElem? (i := 2) rfl))) (fun B2 H locs q9 hq hP hD hS => ?_)
  obtain ⟨c1, hc1, rfl⟩ := hq
  refine lv_astore (lv' := [(7, .ref q9), (0, .ref ob), (1, .int a0), (2, .long a1), (4, .long a2), (6, .ref out)]) hx hb dL_point_31 hl (by decide) rfl (fun ls hl => ?_)
  refine lv_iconst (v := (nI 3)) hx hb dL_point_33 (by decide) ?_
  exact kGi (w := (LWd cJ cI cZ cH cB cT out ob om ahl abl asr pb atr tb mt fhl fbl ftr hA_ bA_ tA_ apx apy act asd amv asl apl asw aor aon atw aup alw fo c1 cd ee zz)) hx hb hr hlocks ⟨rfl, c1, hc1, rfl⟩ hP hK hD hS dL_point_34
set_option maxHeartbeats 1000000 in
theorem hR_corners (l : Launch) (dC : Nat → ClassId) (dI : Nat → Nat → Nat) (cJ cI cZ cH cB cT : ClassId) (out ob om ahl abl asr pb atr tb mt : Nat) (fhl fbl ftr : Nat → Option Nat) (hA_ : Nat → Nat × Nat × Nat × Nat × Nat) (bA_ tA_ : Nat → Nat) (apx apy act asd amv asl apl asw aor aon atw aup alw : Nat) (fo : Nat → Int64) (c : CD) (cd : Nat) (ee : ED) (zz : ZD) (a0 : Int32) (res : Int32) (Pc : CD → Prop) (hM : GMi l yX4_corners wsX4_corners rmR [.ref ob, .int a0] (dC, dI) (LWd cJ cI cZ cH cB cT out ob om ahl abl asr pb atr tb mt fhl fbl ftr hA_ bA_ tA_ apx apy act asd amv asl apl asw aor aon atw aup alw fo c cd ee zz) (tysL cJ cI cZ cH cB cT) (fun r_ w_ => r_ = res ∧ ∃ c', Pc c' ∧ w_ = (LWd cJ cI cZ cH cB cT out ob om ahl abl asr pb atr tb mt fhl fbl ftr hA_ bA_ tA_ apx apy act asd amv asl apl asw aor aon atw aup alw fo c' cd ee zz))) : GHi l yL_corners wsL_corners rmH [.ref ob, .int a0, .ref out] (dC, dI) (LWd cJ cI cZ cH cB cT out ob om ahl abl asr pb atr tb mt fhl fbl ftr hA_ bA_ tA_ apx apy act asd amv asl apl asw aor aon atw aup alw fo c cd ee zz) (tysL cJ cI cZ cH cB cT) (fun r_ w_ => r_ = nI 0 ∧ ∃ c', Pc c' ∧ w_ = (LWd cJ cI cZ cH cB cT out ob om ahl abl asr pb atr tb mt fhl fbl ftr hA_ bA_ tA_ apx apy act asd amv asl apl asw aor aon atw aup alw (vp_updL fo 0 res.toInt64) c' cd ee zz)) := by
  intro sz
  refine kOfH (cc := cL_corners) (maxL := 4) (ret := some .int) (hh := [(0, 9, 12, 19)]) (by decide +kernel) rfl (Nat.le_of_ble_eq_true rfl) ?_
  intro p e s m below meth c_ hx hb hr hml hts hown hlocks htab hB ls hl
  obtain ⟨⟨⟨hsz, hP, hK, hD0⟩, hT⟩, hnc⟩ := hB
  subst hsz
  have hD := hD0.self (sz := s.heap.size)
  generalize hAe : va_A (LWd cJ cI cZ cH cB cT out ob om ahl abl asr pb atr tb mt fhl fbl ftr hA_ bA_ tA_ apx apy act asd amv asl apl asw aor aon atw aup alw fo c cd ee zz) s.heap.size = A at hD hT ⊢
  have hA : ∀ q : Nat, s.heap.size ≤ q → A q := fun q h => by rw [← hAe]; exact Or.inr h
  have hS : va_S A s.heap s.heap [] := va_S.rf
  have hl : lv_has ls 4 [(0, .ref ob), (1, .int a0), (2, .ref out)] := hl
  refine lv_aload_n hx hb dL_corners_0 rfl (lv_at hl 2 rfl) ?_
  refine lv_iconst (v := (nI 0)) hx hb dL_corners_1 (by decide) ?_
  refine lv_aload_n hx hb dL_corners_2 rfl (lv_at hl 0 rfl) ?_
  refine lv_iload_n hx hb dL_corners_3 rfl (lv_at hl 1 rfl) ?_
  refine gVi (ci := 4) (q0 := 1) (As := [.int a0]) (rest := [.int (nI 0), .ref out]) ⟨hx, hb, hml, hown, hts⟩ hM (cwV 1 hts gL_corners_X4_corners rfl rfl rfl (by decide +kernel) ⟨Nat.le_of_ble_eq_true rfl, Nat.le_of_ble_eq_true rfl⟩) hP hD hA hS hK rfl rfl rfl rfl hl.1 (Nat.le_of_ble_eq_true rfl) dL_corners_4 ⟨Nat.le_of_ble_eq_true rfl, Nat.le_of_ble_eq_true rfl⟩ (fun r B2 H locs hq hP hD hS => ?_)
  obtain ⟨hres, c1, hc1, rfl⟩ := hq
  replace hres := hres.symm
  subst hres
  refine lv_i2l (v := res.toInt64) hx hb dL_corners_7 rfl ?_
  refine va_last hx hb hK hP hD hS 0 0 rfl rfl (vp_in_nI (show 0 < 1 by omega) (by omega)) dL_corners_8 (fun H locs hP hD hS => ?_)
  rw [show (nI 0).toNatClampNeg = 0 from nI_clamp (show 0 < 2 ^ 31 by omega)] at hP hD
  refine lv_goto (tgt := 15) hx hb dL_corners_9 (by decide) ?_
  refine lv_iconst (v := (nI 0)) hx hb dL_corners_15 (by decide) ?_
  refine W.widen (k := 1) (n := 6) (by decide) (by decide) ?_
  exact kGi (w := (LWd cJ cI cZ cH cB cT out ob om ahl abl asr pb atr tb mt fhl fbl ftr hA_ bA_ tA_ apx apy act asd amv asl apl asw aor aon atw aup alw (vp_updL fo 0 res.toInt64) c1 cd ee zz)) hx hb hr hlocks ⟨rfl, c1, hc1, rfl⟩ hP hK hD hS dL_corners_16
set_option maxHeartbeats 1000000 in
theorem hT_corners_1 (l : Launch) (dC : Nat → ClassId) (dI : Nat → Nat → Nat) (cJ cI cZ cH cB cT : ClassId) (out ob om ahl abl asr pb atr tb mt : Nat) (fhl fbl ftr : Nat → Option Nat) (hA_ : Nat → Nat × Nat × Nat × Nat × Nat) (bA_ tA_ : Nat → Nat) (apx apy act asd amv asl apl asw aor aon atw aup alw : Nat) (fo : Nat → Int64) (c : CD) (cd : Nat) (ee : ED) (zz : ZD) (a0 : Int32) (Pc : CD → Prop) (hM : GTx l yX4_corners wsX4_corners rmT [.ref ob, .int a0] (dC, dI) (LWd cJ cI cZ cH cB cT out ob om ahl abl asr pb atr tb mt fhl fbl ftr hA_ bA_ tA_ apx apy act asd amv asl apl asw aor aon atw aup alw fo c cd ee zz) (tysL cJ cI cZ cH cB cT) "java/lang/IndexOutOfBoundsException" (fun w_ => ∃ c', Pc c' ∧ w_ = (LWd cJ cI cZ cH cB cT out ob om ahl abl asr pb atr tb mt fhl fbl ftr hA_ bA_ tA_ apx apy act asd amv asl apl asw aor aon atw aup alw fo c' cd ee zz)) (fun A => va_Qi (fun _ (_ : Unit) => False) (fun _ _ => True) A)) : GHi l yL_corners wsL_corners rmH [.ref ob, .int a0, .ref out] (dC, dI) (LWd cJ cI cZ cH cB cT out ob om ahl abl asr pb atr tb mt fhl fbl ftr hA_ bA_ tA_ apx apy act asd amv asl apl asw aor aon atw aup alw fo c cd ee zz) (tysL cJ cI cZ cH cB cT) (fun r_ w_ => r_ = nI 1 ∧ ∃ c', Pc c' ∧ w_ = (LWd cJ cI cZ cH cB cT out ob om ahl abl asr pb atr tb mt fhl fbl ftr hA_ bA_ tA_ apx apy act asd amv asl apl asw aor aon atw aup alw fo c' cd ee zz)) := by
  intro sz
  refine kOfH (cc := cL_corners) (maxL := 4) (ret := some .int) (hh := [(0, 9, 12, 19)]) (by decide +kernel) rfl (Nat.le_of_ble_eq_true rfl) ?_
  intro p e s m below meth c_ hx hb hr hml hts hown hlocks htab hB ls hl
  obtain ⟨⟨⟨hsz, hP, hK, hD0⟩, hT⟩, hnc⟩ := hB
  subst hsz
  have hD := hD0.self (sz := s.heap.size)
  generalize hAe : va_A (LWd cJ cI cZ cH cB cT out ob om ahl abl asr pb atr tb mt fhl fbl ftr hA_ bA_ tA_ apx apy act asd amv asl apl asw aor aon atw aup alw fo c cd ee zz) s.heap.size = A at hD hT ⊢
  have hA : ∀ q : Nat, s.heap.size ≤ q → A q := fun q h => by rw [← hAe]; exact Or.inr h
  have hS : va_S A s.heap s.heap [] := va_S.rf
  have hl : lv_has ls 4 [(0, .ref ob), (1, .int a0), (2, .ref out)] := hl
  refine lv_aload_n hx hb dL_corners_0 rfl (lv_at hl 2 rfl) ?_
  refine lv_iconst (v := (nI 0)) hx hb dL_corners_1 (by decide) ?_
  refine lv_aload_n hx hb dL_corners_2 rfl (lv_at hl 0 rfl) ?_
  refine lv_iload_n hx hb dL_corners_3 rfl (lv_at hl 1 rfl) ?_
  refine gXi (ci := 4) (q0 := 1) (As := [.int a0]) (rest := [.int (nI 0), .ref out]) ⟨hx, hb, hml, hown, hts⟩ hM (cwV 1 hts gL_corners_X4_corners rfl rfl rfl (by decide +kernel) ⟨Nat.le_of_ble_eq_true rfl, Nat.le_of_ble_eq_true rfl⟩) hP hD hA hS hK hT rfl rfl rfl rfl hl.1 (Nat.le_of_ble_eq_true rfl) dL_corners_4 ⟨Nat.le_of_ble_eq_true rfl, Nat.le_of_ble_eq_true rfl⟩ hown [] ⟨0, 9, 12, 19⟩ [] htab (fun z hz => absurd hz List.not_mem_nil) (by decide) (by decide) (hts (.classLink RL 19 "java/lang/IndexOutOfBoundsException") (by decide +kernel)) (cast_at (hT.2.2.2 _ (List.mem_of_getElem? (i := 1) rfl))) (fun B2 H locs q9 hq hP hD hS => ?_)
  obtain ⟨c1, hc1, rfl⟩ := hq
  refine lv_astore_n (lv' := [(3, .ref q9), (0, .ref ob), (1, .int a0), (2, .ref out)]) hx hb dL_corners_12 rfl hl (by decide) rfl (fun ls hl => ?_)
  refine lv_iconst (v := (nI 1)) hx hb dL_corners_13 (by decide) ?_
  exact kGi (w := (LWd cJ cI cZ cH cB cT out ob om ahl abl asr pb atr tb mt fhl fbl ftr hA_ bA_ tA_ apx apy act asd amv asl apl asw aor aon atw aup alw fo c1 cd ee zz)) hx hb hr hlocks ⟨rfl, c1, hc1, rfl⟩ hP hK hD hS dL_corners_14
set_option maxHeartbeats 1000000 in
theorem hR_corner (l : Launch) (dC : Nat → ClassId) (dI : Nat → Nat → Nat) (cJ cI cZ cH cB cT : ClassId) (out ob om ahl abl asr pb atr tb mt : Nat) (fhl fbl ftr : Nat → Option Nat) (hA_ : Nat → Nat × Nat × Nat × Nat × Nat) (bA_ tA_ : Nat → Nat) (apx apy act asd amv asl apl asw aor aon atw aup alw : Nat) (fo : Nat → Int64) (c : CD) (cd : Nat) (ee : ED) (zz : ZD) (a0 : Int32) (a1 : Int32) (a2 : Int32) (res : Int64) (Pc : CD → Prop) (hM : GMl l yX4_corner wsX4_corner rmR [.ref ob, .int a0, .int a1, .int a2] (dC, dI) (LWd cJ cI cZ cH cB cT out ob om ahl abl asr pb atr tb mt fhl fbl ftr hA_ bA_ tA_ apx apy act asd amv asl apl asw aor aon atw aup alw fo c cd ee zz) (tysL cJ cI cZ cH cB cT) (fun r_ w_ => r_ = res ∧ ∃ c', Pc c' ∧ w_ = (LWd cJ cI cZ cH cB cT out ob om ahl abl asr pb atr tb mt fhl fbl ftr hA_ bA_ tA_ apx apy act asd amv asl apl asw aor aon atw aup alw fo c' cd ee zz))) : GHi l yL_corner wsL_corner rmH [.ref ob, .int a0, .int a1, .int a2, .ref out] (dC, dI) (LWd cJ cI cZ cH cB cT out ob om ahl abl asr pb atr tb mt fhl fbl ftr hA_ bA_ tA_ apx apy act asd amv asl apl asw aor aon atw aup alw fo c cd ee zz) (tysL cJ cI cZ cH cB cT) (fun r_ w_ => r_ = nI 0 ∧ ∃ c', Pc c' ∧ w_ = (LWd cJ cI cZ cH cB cT out ob om ahl abl asr pb atr tb mt fhl fbl ftr hA_ bA_ tA_ apx apy act asd amv asl apl asw aor aon atw aup alw (vp_updL fo 0 res) c' cd ee zz)) := by
  intro sz
  refine kOfH (cc := cL_corner) (maxL := 6) (ret := some .int) (hh := [(0, 11, 14, 19)]) (by decide +kernel) rfl (Nat.le_of_ble_eq_true rfl) ?_
  intro p e s m below meth c_ hx hb hr hml hts hown hlocks htab hB ls hl
  obtain ⟨⟨⟨hsz, hP, hK, hD0⟩, hT⟩, hnc⟩ := hB
  subst hsz
  have hD := hD0.self (sz := s.heap.size)
  generalize hAe : va_A (LWd cJ cI cZ cH cB cT out ob om ahl abl asr pb atr tb mt fhl fbl ftr hA_ bA_ tA_ apx apy act asd amv asl apl asw aor aon atw aup alw fo c cd ee zz) s.heap.size = A at hD hT ⊢
  have hA : ∀ q : Nat, s.heap.size ≤ q → A q := fun q h => by rw [← hAe]; exact Or.inr h
  have hS : va_S A s.heap s.heap [] := va_S.rf
  have hl : lv_has ls 6 [(0, .ref ob), (1, .int a0), (2, .int a1), (3, .int a2), (4, .ref out)] := hl
  refine lv_aload hx hb dL_corner_0 (lv_at hl 4 rfl) ?_
  refine lv_iconst (v := (nI 0)) hx hb dL_corner_2 (by decide) ?_
  refine lv_aload_n hx hb dL_corner_3 rfl (lv_at hl 0 rfl) ?_
  refine lv_iload_n hx hb dL_corner_4 rfl (lv_at hl 1 rfl) ?_
  refine lv_iload_n hx hb dL_corner_5 rfl (lv_at hl 2 rfl) ?_
  refine lv_iload_n hx hb dL_corner_6 rfl (lv_at hl 3 rfl) ?_
  refine gVl (ci := 4) (q0 := 1) (As := [.int a0, .int a1, .int a2]) (rest := [.int (nI 0), .ref out]) ⟨hx, hb, hml, hown, hts⟩ hM (cwV 3 hts gL_corner_X4_corner rfl rfl rfl (by decide +kernel) ⟨Nat.le_of_ble_eq_true rfl, Nat.le_of_ble_eq_true rfl⟩) hP hD hA hS hK rfl rfl rfl rfl hl.1 (Nat.le_of_ble_eq_true rfl) dL_corner_7 ⟨Nat.le_of_ble_eq_true rfl, Nat.le_of_ble_eq_true rfl⟩ (fun r B2 H locs hq hP hD hS => ?_)
  obtain ⟨hres, c1, hc1, rfl⟩ := hq
  replace hres := hres.symm
  subst hres
  refine va_last hx hb hK hP hD hS 0 0 rfl rfl (vp_in_nI (show 0 < 1 by omega) (by omega)) dL_corner_10 (fun H locs hP hD hS => ?_)
  rw [show (nI 0).toNatClampNeg = 0 from nI_clamp (show 0 < 2 ^ 31 by omega)] at hP hD
  refine lv_goto (tgt := 18) hx hb dL_corner_11 (by decide) ?_
  refine lv_iconst (v := (nI 0)) hx hb dL_corner_18 (by decide) ?_
  refine W.widen (k := 1) (n := 6) (by decide) (by decide) ?_
  exact kGi (w := (LWd cJ cI cZ cH cB cT out ob om ahl abl asr pb atr tb mt fhl fbl ftr hA_ bA_ tA_ apx apy act asd amv asl apl asw aor aon atw aup alw (vp_updL fo 0 res) c1 cd ee zz)) hx hb hr hlocks ⟨rfl, c1, hc1, rfl⟩ hP hK hD hS dL_corner_19
set_option maxHeartbeats 1000000 in
theorem hT_corner_1 (l : Launch) (dC : Nat → ClassId) (dI : Nat → Nat → Nat) (cJ cI cZ cH cB cT : ClassId) (out ob om ahl abl asr pb atr tb mt : Nat) (fhl fbl ftr : Nat → Option Nat) (hA_ : Nat → Nat × Nat × Nat × Nat × Nat) (bA_ tA_ : Nat → Nat) (apx apy act asd amv asl apl asw aor aon atw aup alw : Nat) (fo : Nat → Int64) (c : CD) (cd : Nat) (ee : ED) (zz : ZD) (a0 : Int32) (a1 : Int32) (a2 : Int32) (Pc : CD → Prop) (hM : GTx l yX4_corner wsX4_corner rmT [.ref ob, .int a0, .int a1, .int a2] (dC, dI) (LWd cJ cI cZ cH cB cT out ob om ahl abl asr pb atr tb mt fhl fbl ftr hA_ bA_ tA_ apx apy act asd amv asl apl asw aor aon atw aup alw fo c cd ee zz) (tysL cJ cI cZ cH cB cT) "java/lang/IndexOutOfBoundsException" (fun w_ => ∃ c', Pc c' ∧ w_ = (LWd cJ cI cZ cH cB cT out ob om ahl abl asr pb atr tb mt fhl fbl ftr hA_ bA_ tA_ apx apy act asd amv asl apl asw aor aon atw aup alw fo c' cd ee zz)) (fun A => va_Ql (fun _ (_ : Unit) => False) (fun _ _ => True) A)) : GHi l yL_corner wsL_corner rmH [.ref ob, .int a0, .int a1, .int a2, .ref out] (dC, dI) (LWd cJ cI cZ cH cB cT out ob om ahl abl asr pb atr tb mt fhl fbl ftr hA_ bA_ tA_ apx apy act asd amv asl apl asw aor aon atw aup alw fo c cd ee zz) (tysL cJ cI cZ cH cB cT) (fun r_ w_ => r_ = nI 1 ∧ ∃ c', Pc c' ∧ w_ = (LWd cJ cI cZ cH cB cT out ob om ahl abl asr pb atr tb mt fhl fbl ftr hA_ bA_ tA_ apx apy act asd amv asl apl asw aor aon atw aup alw fo c' cd ee zz)) := by
  intro sz
  refine kOfH (cc := cL_corner) (maxL := 6) (ret := some .int) (hh := [(0, 11, 14, 19)]) (by decide +kernel) rfl (Nat.le_of_ble_eq_true rfl) ?_
  intro p e s m below meth c_ hx hb hr hml hts hown hlocks htab hB ls hl
  obtain ⟨⟨⟨hsz, hP, hK, hD0⟩, hT⟩, hnc⟩ := hB
  subst hsz
  have hD := hD0.self (sz := s.heap.size)
  generalize hAe : va_A (LWd cJ cI cZ cH cB cT out ob om ahl abl asr pb atr tb mt fhl fbl ftr hA_ bA_ tA_ apx apy act asd amv asl apl asw aor aon atw aup alw fo c cd ee zz) s.heap.size = A at hD hT ⊢
  have hA : ∀ q : Nat, s.heap.size ≤ q → A q := fun q h => by rw [← hAe]; exact Or.inr h
  have hS : va_S A s.heap s.heap [] := va_S.rf
  have hl : lv_has ls 6 [(0, .ref ob), (1, .int a0), (2, .int a1), (3, .int a2), (4, .ref out)] := hl
  refine lv_aload hx hb dL_corner_0 (lv_at hl 4 rfl) ?_
  refine lv_iconst (v := (nI 0)) hx hb dL_corner_2 (by decide) ?_
  refine lv_aload_n hx hb dL_corner_3 rfl (lv_at hl 0 rfl) ?_
  refine lv_iload_n hx hb dL_corner_4 rfl (lv_at hl 1 rfl) ?_
  refine lv_iload_n hx hb dL_corner_5 rfl (lv_at hl 2 rfl) ?_
  refine lv_iload_n hx hb dL_corner_6 rfl (lv_at hl 3 rfl) ?_
  refine gXl (ci := 4) (q0 := 1) (As := [.int a0, .int a1, .int a2]) (rest := [.int (nI 0), .ref out]) ⟨hx, hb, hml, hown, hts⟩ hM (cwV 3 hts gL_corner_X4_corner rfl rfl rfl (by decide +kernel) ⟨Nat.le_of_ble_eq_true rfl, Nat.le_of_ble_eq_true rfl⟩) hP hD hA hS hK hT rfl rfl rfl rfl hl.1 (Nat.le_of_ble_eq_true rfl) dL_corner_7 ⟨Nat.le_of_ble_eq_true rfl, Nat.le_of_ble_eq_true rfl⟩ hown [] ⟨0, 11, 14, 19⟩ [] htab (fun z hz => absurd hz List.not_mem_nil) (by decide) (by decide) (hts (.classLink RL 19 "java/lang/IndexOutOfBoundsException") (by decide +kernel)) (cast_at (hT.2.2.2 _ (List.mem_of_getElem? (i := 1) rfl))) (fun B2 H locs q9 hq hP hD hS => ?_)
  obtain ⟨c1, hc1, rfl⟩ := hq
  refine lv_astore (lv' := [(5, .ref q9), (0, .ref ob), (1, .int a0), (2, .int a1), (3, .int a2), (4, .ref out)]) hx hb dL_corner_14 hl (by decide) rfl (fun ls hl => ?_)
  refine lv_iconst (v := (nI 1)) hx hb dL_corner_16 (by decide) ?_
  exact kGi (w := (LWd cJ cI cZ cH cB cT out ob om ahl abl asr pb atr tb mt fhl fbl ftr hA_ bA_ tA_ apx apy act asd amv asl apl asw aor aon atw aup alw fo c1 cd ee zz)) hx hb hr hlocks ⟨rfl, c1, hc1, rfl⟩ hP hK hD hS dL_corner_17
set_option maxHeartbeats 1000000 in
theorem hR_apart (l : Launch) (dC : Nat → ClassId) (dI : Nat → Nat → Nat) (cJ cI cZ cH cB cT : ClassId) (out ob om ahl abl asr pb atr tb mt : Nat) (fhl fbl ftr : Nat → Option Nat) (hA_ : Nat → Nat × Nat × Nat × Nat × Nat) (bA_ tA_ : Nat → Nat) (apx apy act asd amv asl apl asw aor aon atw aup alw : Nat) (fo : Nat → Int64) (c : CD) (cd : Nat) (ee : ED) (zz : ZD) (a0 : Int32) (a1 : Int32) (bb : Bool) (Pc : CD → Prop) (hM : GMi l yX4_apart wsX4_apart rmR [.ref ob, .int a0, .int a1] (dC, dI) (LWd cJ cI cZ cH cB cT out ob om ahl abl asr pb atr tb mt fhl fbl ftr hA_ bA_ tA_ apx apy act asd amv asl apl asw aor aon atw aup alw fo c cd ee zz) (tysL cJ cI cZ cH cB cT) (fun r_ w_ => r_ = bI bb ∧ ∃ c', Pc c' ∧ w_ = (LWd cJ cI cZ cH cB cT out ob om ahl abl asr pb atr tb mt fhl fbl ftr hA_ bA_ tA_ apx apy act asd amv asl apl asw aor aon atw aup alw fo c' cd ee zz))) : GHi l yL_apart wsL_apart rmH [.ref ob, .int a0, .int a1, .ref out] (dC, dI) (LWd cJ cI cZ cH cB cT out ob om ahl abl asr pb atr tb mt fhl fbl ftr hA_ bA_ tA_ apx apy act asd amv asl apl asw aor aon atw aup alw fo c cd ee zz) (tysL cJ cI cZ cH cB cT) (fun r_ w_ => r_ = nI 0 ∧ ∃ c', Pc c' ∧ w_ = (LWd cJ cI cZ cH cB cT out ob om ahl abl asr pb atr tb mt fhl fbl ftr hA_ bA_ tA_ apx apy act asd amv asl apl asw aor aon atw aup alw (vp_updL fo 0 (bL bb)) c' cd ee zz)) := by
  intro sz
  refine kOfH (cc := cL_apart) (maxL := 5) (ret := some .int) (hh := [(0, 17, 20, 19)]) (by decide +kernel) rfl (Nat.le_of_ble_eq_true rfl) ?_
  intro p e s m below meth c_ hx hb hr hml hts hown hlocks htab hB ls hl
  obtain ⟨⟨⟨hsz, hP, hK, hD0⟩, hT⟩, hnc⟩ := hB
  subst hsz
  have hD := hD0.self (sz := s.heap.size)
  generalize hAe : va_A (LWd cJ cI cZ cH cB cT out ob om ahl abl asr pb atr tb mt fhl fbl ftr hA_ bA_ tA_ apx apy act asd amv asl apl asw aor aon atw aup alw fo c cd ee zz) s.heap.size = A at hD hT ⊢
  have hA : ∀ q : Nat, s.heap.size ≤ q → A q := fun q h => by rw [← hAe]; exact Or.inr h
  have hS : va_S A s.heap s.heap [] := va_S.rf
  have hl : lv_has ls 5 [(0, .ref ob), (1, .int a0), (2, .int a1), (3, .ref out)] := hl
  refine lv_aload_n hx hb dL_apart_0 rfl (lv_at hl 3 rfl) ?_
  refine lv_iconst (v := (nI 0)) hx hb dL_apart_1 (by decide) ?_
  refine lv_aload_n hx hb dL_apart_2 rfl (lv_at hl 0 rfl) ?_
  refine lv_iload_n hx hb dL_apart_3 rfl (lv_at hl 1 rfl) ?_
  refine lv_iload_n hx hb dL_apart_4 rfl (lv_at hl 2 rfl) ?_
  refine gVi (ci := 4) (q0 := 1) (As := [.int a0, .int a1]) (rest := [.int (nI 0), .ref out]) ⟨hx, hb, hml, hown, hts⟩ hM (cwV 2 hts gL_apart_X4_apart rfl rfl rfl (by decide +kernel) ⟨Nat.le_of_ble_eq_true rfl, Nat.le_of_ble_eq_true rfl⟩) hP hD hA hS hK rfl rfl rfl rfl hl.1 (Nat.le_of_ble_eq_true rfl) dL_apart_5 ⟨Nat.le_of_ble_eq_true rfl, Nat.le_of_ble_eq_true rfl⟩ (fun r B2 H locs hq hP hD hS => ?_)
  obtain ⟨hres, c1, hc1, rfl⟩ := hq
  replace hres := hres.symm
  subst hres
  refine lv_if_eq (tgt := 15) hx hb dL_apart_8 (by decide) (fun cz => ?_) (fun cz => ?_)
  · have hbb : bb = false := bI_0 cz
    subst hbb
    refine lv_lconst (v := 0) hx hb dL_apart_15 (by decide) ?_
    refine va_last hx hb hK hP hD hS 0 0 rfl rfl (vp_in_nI (show 0 < 1 by omega) (by omega)) dL_apart_16 (fun H locs hP hD hS => ?_)
    rw [show (nI 0).toNatClampNeg = 0 from nI_clamp (show 0 < 2 ^ 31 by omega)] at hP hD
    refine lv_goto (tgt := 24) hx hb dL_apart_17 (by decide) ?_
    refine lv_iconst (v := (nI 0)) hx hb dL_apart_24 (by decide) ?_
    refine W.widen (k := 1) (n := 6) (by decide) (by decide) ?_
    exact kGi (w := (LWd cJ cI cZ cH cB cT out ob om ahl abl asr pb atr tb mt fhl fbl ftr hA_ bA_ tA_ apx apy act asd amv asl apl asw aor aon atw aup alw (vp_updL fo 0 (bL false)) c1 cd ee zz)) hx hb hr hlocks ⟨rfl, c1, hc1, rfl⟩ hP hK hD hS dL_apart_25
  · have hbb : bb = true := bI_n cz
    subst hbb
    refine lv_lconst (v := 1) hx hb dL_apart_11 (by decide) ?_
    refine lv_goto (tgt := 16) hx hb dL_apart_12 (by decide) ?_
    refine va_last hx hb hK hP hD hS 0 0 rfl rfl (vp_in_nI (show 0 < 1 by omega) (by omega)) dL_apart_16 (fun H locs hP hD hS => ?_)
    rw [show (nI 0).toNatClampNeg = 0 from nI_clamp (show 0 < 2 ^ 31 by omega)] at hP hD
    refine lv_goto (tgt := 24) hx hb dL_apart_17 (by decide) ?_
    refine lv_iconst (v := (nI 0)) hx hb dL_apart_24 (by decide) ?_
    refine W.widen (k := 1) (n := 6) (by decide) (by decide) ?_
    exact kGi (w := (LWd cJ cI cZ cH cB cT out ob om ahl abl asr pb atr tb mt fhl fbl ftr hA_ bA_ tA_ apx apy act asd amv asl apl asw aor aon atw aup alw (vp_updL fo 0 (bL true)) c1 cd ee zz)) hx hb hr hlocks ⟨rfl, c1, hc1, rfl⟩ hP hK hD hS dL_apart_25
set_option maxHeartbeats 1000000 in
theorem hT_apart_1 (l : Launch) (dC : Nat → ClassId) (dI : Nat → Nat → Nat) (cJ cI cZ cH cB cT : ClassId) (out ob om ahl abl asr pb atr tb mt : Nat) (fhl fbl ftr : Nat → Option Nat) (hA_ : Nat → Nat × Nat × Nat × Nat × Nat) (bA_ tA_ : Nat → Nat) (apx apy act asd amv asl apl asw aor aon atw aup alw : Nat) (fo : Nat → Int64) (c : CD) (cd : Nat) (ee : ED) (zz : ZD) (a0 : Int32) (a1 : Int32) (Pc : CD → Prop) (hM : GTx l yX4_apart wsX4_apart rmT [.ref ob, .int a0, .int a1] (dC, dI) (LWd cJ cI cZ cH cB cT out ob om ahl abl asr pb atr tb mt fhl fbl ftr hA_ bA_ tA_ apx apy act asd amv asl apl asw aor aon atw aup alw fo c cd ee zz) (tysL cJ cI cZ cH cB cT) "java/lang/IndexOutOfBoundsException" (fun w_ => ∃ c', Pc c' ∧ w_ = (LWd cJ cI cZ cH cB cT out ob om ahl abl asr pb atr tb mt fhl fbl ftr hA_ bA_ tA_ apx apy act asd amv asl apl asw aor aon atw aup alw fo c' cd ee zz)) (fun A => va_Qi (fun _ (_ : Unit) => False) (fun _ _ => True) A)) : GHi l yL_apart wsL_apart rmH [.ref ob, .int a0, .int a1, .ref out] (dC, dI) (LWd cJ cI cZ cH cB cT out ob om ahl abl asr pb atr tb mt fhl fbl ftr hA_ bA_ tA_ apx apy act asd amv asl apl asw aor aon atw aup alw fo c cd ee zz) (tysL cJ cI cZ cH cB cT) (fun r_ w_ => r_ = nI 1 ∧ ∃ c', Pc c' ∧ w_ = (LWd cJ cI cZ cH cB cT out ob om ahl abl asr pb atr tb mt fhl fbl ftr hA_ bA_ tA_ apx apy act asd amv asl apl asw aor aon atw aup alw fo c' cd ee zz)) := by
  intro sz
  refine kOfH (cc := cL_apart) (maxL := 5) (ret := some .int) (hh := [(0, 17, 20, 19)]) (by decide +kernel) rfl (Nat.le_of_ble_eq_true rfl) ?_
  intro p e s m below meth c_ hx hb hr hml hts hown hlocks htab hB ls hl
  obtain ⟨⟨⟨hsz, hP, hK, hD0⟩, hT⟩, hnc⟩ := hB
  subst hsz
  have hD := hD0.self (sz := s.heap.size)
  generalize hAe : va_A (LWd cJ cI cZ cH cB cT out ob om ahl abl asr pb atr tb mt fhl fbl ftr hA_ bA_ tA_ apx apy act asd amv asl apl asw aor aon atw aup alw fo c cd ee zz) s.heap.size = A at hD hT ⊢
  have hA : ∀ q : Nat, s.heap.size ≤ q → A q := fun q h => by rw [← hAe]; exact Or.inr h
  have hS : va_S A s.heap s.heap [] := va_S.rf
  have hl : lv_has ls 5 [(0, .ref ob), (1, .int a0), (2, .int a1), (3, .ref out)] := hl
  refine lv_aload_n hx hb dL_apart_0 rfl (lv_at hl 3 rfl) ?_
  refine lv_iconst (v := (nI 0)) hx hb dL_apart_1 (by decide) ?_
  refine lv_aload_n hx hb dL_apart_2 rfl (lv_at hl 0 rfl) ?_
  refine lv_iload_n hx hb dL_apart_3 rfl (lv_at hl 1 rfl) ?_
  refine lv_iload_n hx hb dL_apart_4 rfl (lv_at hl 2 rfl) ?_
  refine gXi (ci := 4) (q0 := 1) (As := [.int a0, .int a1]) (rest := [.int (nI 0), .ref out]) ⟨hx, hb, hml, hown, hts⟩ hM (cwV 2 hts gL_apart_X4_apart rfl rfl rfl (by decide +kernel) ⟨Nat.le_of_ble_eq_true rfl, Nat.le_of_ble_eq_true rfl⟩) hP hD hA hS hK hT rfl rfl rfl rfl hl.1 (Nat.le_of_ble_eq_true rfl) dL_apart_5 ⟨Nat.le_of_ble_eq_true rfl, Nat.le_of_ble_eq_true rfl⟩ hown [] ⟨0, 17, 20, 19⟩ [] htab (fun z hz => absurd hz List.not_mem_nil) (by decide) (by decide) (hts (.classLink RL 19 "java/lang/IndexOutOfBoundsException") (by decide +kernel)) (cast_at (hT.2.2.2 _ (List.mem_of_getElem? (i := 1) rfl))) (fun B2 H locs q9 hq hP hD hS => ?_)
  obtain ⟨c1, hc1, rfl⟩ := hq
  refine lv_astore (lv' := [(4, .ref q9), (0, .ref ob), (1, .int a0), (2, .int a1), (3, .ref out)]) hx hb dL_apart_20 hl (by decide) rfl (fun ls hl => ?_)
  refine lv_iconst (v := (nI 1)) hx hb dL_apart_22 (by decide) ?_
  exact kGi (w := (LWd cJ cI cZ cH cB cT out ob om ahl abl asr pb atr tb mt fhl fbl ftr hA_ bA_ tA_ apx apy act asd amv asl apl asw aor aon atw aup alw fo c1 cd ee zz)) hx hb hr hlocks ⟨rfl, c1, hc1, rfl⟩ hP hK hD hS dL_apart_23
set_option maxHeartbeats 1000000 in
theorem hR_box (l : Launch) (dC : Nat → ClassId) (dI : Nat → Nat → Nat) (cJ cI cZ cH cB cT : ClassId) (out ob om ahl abl asr pb atr tb mt : Nat) (fhl fbl ftr : Nat → Option Nat) (hA_ : Nat → Nat × Nat × Nat × Nat × Nat) (bA_ tA_ : Nat → Nat) (apx apy act asd amv asl apl asw aor aon atw aup alw : Nat) (fo : Nat → Int64) (c : CD) (cd : Nat) (ee : ED) (zz : ZD) (a0 : Int64) (a1 : Int64) (a2 : Int64) (a3 : Int64) (res : Int32) (Pc : CD → Prop) (hM : GMi l yX4_box wsX4_box rmR [.ref ob, .long a0, .long a1, .long a2, .long a3] (dC, dI) (LWd cJ cI cZ cH cB cT out ob om ahl abl asr pb atr tb mt fhl fbl ftr hA_ bA_ tA_ apx apy act asd amv asl apl asw aor aon atw aup alw fo c cd ee zz) (tysL cJ cI cZ cH cB cT) (fun r_ w_ => r_ = res ∧ ∃ c', Pc c' ∧ w_ = (LWd cJ cI cZ cH cB cT out ob om ahl abl asr pb atr tb mt fhl fbl ftr hA_ bA_ tA_ apx apy act asd amv asl apl asw aor aon atw aup alw fo c' cd ee zz))) : GHi l yL_box wsL_box rmH [.ref ob, .long a0, .long a1, .long a2, .long a3, .ref out] (dC, dI) (LWd cJ cI cZ cH cB cT out ob om ahl abl asr pb atr tb mt fhl fbl ftr hA_ bA_ tA_ apx apy act asd amv asl apl asw aor aon atw aup alw fo c cd ee zz) (tysL cJ cI cZ cH cB cT) (fun r_ w_ => r_ = nI 0 ∧ ∃ c', Pc c' ∧ w_ = (LWd cJ cI cZ cH cB cT out ob om ahl abl asr pb atr tb mt fhl fbl ftr hA_ bA_ tA_ apx apy act asd amv asl apl asw aor aon atw aup alw (vp_updL fo 0 res.toInt64) c' cd ee zz)) := by
  intro sz
  refine kOfH (cc := cL_box) (maxL := 11) (ret := some .int) (hh := [(0, 15, 18, 13), (0, 15, 22, 21)]) (by decide +kernel) rfl (Nat.le_of_ble_eq_true rfl) ?_
  intro p e s m below meth c_ hx hb hr hml hts hown hlocks htab hB ls hl
  obtain ⟨⟨⟨hsz, hP, hK, hD0⟩, hT⟩, hnc⟩ := hB
  subst hsz
  have hD := hD0.self (sz := s.heap.size)
  generalize hAe : va_A (LWd cJ cI cZ cH cB cT out ob om ahl abl asr pb atr tb mt fhl fbl ftr hA_ bA_ tA_ apx apy act asd amv asl apl asw aor aon atw aup alw fo c cd ee zz) s.heap.size = A at hD hT ⊢
  have hA : ∀ q : Nat, s.heap.size ≤ q → A q := fun q h => by rw [← hAe]; exact Or.inr h
  have hS : va_S A s.heap s.heap [] := va_S.rf
  have hl : lv_has ls 11 [(0, .ref ob), (1, .long a0), (3, .long a1), (5, .long a2), (7, .long a3), (9, .ref out)] := hl
  refine lv_aload hx hb dL_box_0 (lv_at hl 5 rfl) ?_
  refine lv_iconst (v := (nI 0)) hx hb dL_box_2 (by decide) ?_
  refine lv_aload_n hx hb dL_box_3 rfl (lv_at hl 0 rfl) ?_
  refine lv_lload_n hx hb dL_box_4 rfl (lv_at hl 1 rfl) ?_
  refine lv_lload_n hx hb dL_box_5 rfl (lv_at hl 2 rfl) ?_
  refine lv_lload hx hb dL_box_6 (lv_at hl 3 rfl) ?_
  refine lv_lload hx hb dL_box_8 (lv_at hl 4 rfl) ?_
  refine gVi (ci := 4) (q0 := 1) (As := [.long a0, .long a1, .long a2, .long a3]) (rest := [.int (nI 0), .ref out]) ⟨hx, hb, hml, hown, hts⟩ hM (cwV 4 hts gL_box_X4_box rfl rfl rfl (by decide +kernel) ⟨Nat.le_of_ble_eq_true rfl, Nat.le_of_ble_eq_true rfl⟩) hP hD hA hS hK rfl rfl rfl rfl hl.1 (Nat.le_of_ble_eq_true rfl) dL_box_10 ⟨Nat.le_of_ble_eq_true rfl, Nat.le_of_ble_eq_true rfl⟩ (fun r B2 H locs hq hP hD hS => ?_)
  obtain ⟨hres, c1, hc1, rfl⟩ := hq
  replace hres := hres.symm
  subst hres
  refine lv_i2l (v := res.toInt64) hx hb dL_box_13 rfl ?_
  refine va_last hx hb hK hP hD hS 0 0 rfl rfl (vp_in_nI (show 0 < 1 by omega) (by omega)) dL_box_14 (fun H locs hP hD hS => ?_)
  rw [show (nI 0).toNatClampNeg = 0 from nI_clamp (show 0 < 2 ^ 31 by omega)] at hP hD
  refine lv_goto (tgt := 26) hx hb dL_box_15 (by decide) ?_
  refine lv_iconst (v := (nI 0)) hx hb dL_box_26 (by decide) ?_
  refine W.widen (k := 1) (n := 6) (by decide) (by decide) ?_
  exact kGi (w := (LWd cJ cI cZ cH cB cT out ob om ahl abl asr pb atr tb mt fhl fbl ftr hA_ bA_ tA_ apx apy act asd amv asl apl asw aor aon atw aup alw (vp_updL fo 0 res.toInt64) c1 cd ee zz)) hx hb hr hlocks ⟨rfl, c1, hc1, rfl⟩ hP hK hD hS dL_box_27
set_option maxHeartbeats 1000000 in
theorem hT_box_1 (l : Launch) (dC : Nat → ClassId) (dI : Nat → Nat → Nat) (cJ cI cZ cH cB cT : ClassId) (out ob om ahl abl asr pb atr tb mt : Nat) (fhl fbl ftr : Nat → Option Nat) (hA_ : Nat → Nat × Nat × Nat × Nat × Nat) (bA_ tA_ : Nat → Nat) (apx apy act asd amv asl apl asw aor aon atw aup alw : Nat) (fo : Nat → Int64) (c : CD) (cd : Nat) (ee : ED) (zz : ZD) (a0 : Int64) (a1 : Int64) (a2 : Int64) (a3 : Int64) (Pc : CD → Prop) (hM : GTx l yX4_box wsX4_box rmT [.ref ob, .long a0, .long a1, .long a2, .long a3] (dC, dI) (LWd cJ cI cZ cH cB cT out ob om ahl abl asr pb atr tb mt fhl fbl ftr hA_ bA_ tA_ apx apy act asd amv asl apl asw aor aon atw aup alw fo c cd ee zz) (tysL cJ cI cZ cH cB cT) "java/lang/IllegalStateException" (fun w_ => ∃ c', Pc c' ∧ w_ = (LWd cJ cI cZ cH cB cT out ob om ahl abl asr pb atr tb mt fhl fbl ftr hA_ bA_ tA_ apx apy act asd amv asl apl asw aor aon atw aup alw fo c' cd ee zz)) (fun A => va_Qi (fun _ (_ : Unit) => False) (fun _ _ => True) A)) : GHi l yL_box wsL_box rmH [.ref ob, .long a0, .long a1, .long a2, .long a3, .ref out] (dC, dI) (LWd cJ cI cZ cH cB cT out ob om ahl abl asr pb atr tb mt fhl fbl ftr hA_ bA_ tA_ apx apy act asd amv asl apl asw aor aon atw aup alw fo c cd ee zz) (tysL cJ cI cZ cH cB cT) (fun r_ w_ => r_ = nI 1 ∧ ∃ c', Pc c' ∧ w_ = (LWd cJ cI cZ cH cB cT out ob om ahl abl asr pb atr tb mt fhl fbl ftr hA_ bA_ tA_ apx apy act asd amv asl apl asw aor aon atw aup alw fo c' cd ee zz)) := by
  intro sz
  refine kOfH (cc := cL_box) (maxL := 11) (ret := some .int) (hh := [(0, 15, 18, 13), (0, 15, 22, 21)]) (by decide +kernel) rfl (Nat.le_of_ble_eq_true rfl) ?_
  intro p e s m below meth c_ hx hb hr hml hts hown hlocks htab hB ls hl
  obtain ⟨⟨⟨hsz, hP, hK, hD0⟩, hT⟩, hnc⟩ := hB
  subst hsz
  have hD := hD0.self (sz := s.heap.size)
  generalize hAe : va_A (LWd cJ cI cZ cH cB cT out ob om ahl abl asr pb atr tb mt fhl fbl ftr hA_ bA_ tA_ apx apy act asd amv asl apl asw aor aon atw aup alw fo c cd ee zz) s.heap.size = A at hD hT ⊢
  have hA : ∀ q : Nat, s.heap.size ≤ q → A q := fun q h => by rw [← hAe]; exact Or.inr h
  have hS : va_S A s.heap s.heap [] := va_S.rf
  have hl : lv_has ls 11 [(0, .ref ob), (1, .long a0), (3, .long a1), (5, .long a2), (7, .long a3), (9, .ref out)] := hl
  refine lv_aload hx hb dL_box_0 (lv_at hl 5 rfl) ?_
  refine lv_iconst (v := (nI 0)) hx hb dL_box_2 (by decide) ?_
  refine lv_aload_n hx hb dL_box_3 rfl (lv_at hl 0 rfl) ?_
  refine lv_lload_n hx hb dL_box_4 rfl (lv_at hl 1 rfl) ?_
  refine lv_lload_n hx hb dL_box_5 rfl (lv_at hl 2 rfl) ?_
  refine lv_lload hx hb dL_box_6 (lv_at hl 3 rfl) ?_
  refine lv_lload hx hb dL_box_8 (lv_at hl 4 rfl) ?_
  refine gXi (ci := 4) (q0 := 1) (As := [.long a0, .long a1, .long a2, .long a3]) (rest := [.int (nI 0), .ref out]) ⟨hx, hb, hml, hown, hts⟩ hM (cwV 4 hts gL_box_X4_box rfl rfl rfl (by decide +kernel) ⟨Nat.le_of_ble_eq_true rfl, Nat.le_of_ble_eq_true rfl⟩) hP hD hA hS hK hT rfl rfl rfl rfl hl.1 (Nat.le_of_ble_eq_true rfl) dL_box_10 ⟨Nat.le_of_ble_eq_true rfl, Nat.le_of_ble_eq_true rfl⟩ hown [] ⟨0, 15, 18, 13⟩ [⟨0, 15, 22, 21⟩] htab (fun z hz => absurd hz List.not_mem_nil) (by decide) (by decide) (hts (.classLink RL 13 "java/lang/IllegalStateException") (by decide +kernel)) (cast_at (hT.2.2.2 _ (List.mem_of_getElem? (i := 0) rfl))) (fun B2 H locs q9 hq hP hD hS => ?_)
  obtain ⟨c1, hc1, rfl⟩ := hq
  refine lv_astore (lv' := [(10, .ref q9), (0, .ref ob), (1, .long a0), (3, .long a1), (5, .long a2), (7, .long a3), (9, .ref out)]) hx hb dL_box_18 hl (by decide) rfl (fun ls hl => ?_)
  refine lv_iconst (v := (nI 1)) hx hb dL_box_20 (by decide) ?_
  exact kGi (w := (LWd cJ cI cZ cH cB cT out ob om ahl abl asr pb atr tb mt fhl fbl ftr hA_ bA_ tA_ apx apy act asd amv asl apl asw aor aon atw aup alw fo c1 cd ee zz)) hx hb hr hlocks ⟨rfl, c1, hc1, rfl⟩ hP hK hD hS dL_box_21
set_option maxHeartbeats 1000000 in
theorem hT_box_2 (l : Launch) (dC : Nat → ClassId) (dI : Nat → Nat → Nat) (cJ cI cZ cH cB cT : ClassId) (out ob om ahl abl asr pb atr tb mt : Nat) (fhl fbl ftr : Nat → Option Nat) (hA_ : Nat → Nat × Nat × Nat × Nat × Nat) (bA_ tA_ : Nat → Nat) (apx apy act asd amv asl apl asw aor aon atw aup alw : Nat) (fo : Nat → Int64) (c : CD) (cd : Nat) (ee : ED) (zz : ZD) (a0 : Int64) (a1 : Int64) (a2 : Int64) (a3 : Int64) (Pc : CD → Prop) (hM : GTx l yX4_box wsX4_box rmT [.ref ob, .long a0, .long a1, .long a2, .long a3] (dC, dI) (LWd cJ cI cZ cH cB cT out ob om ahl abl asr pb atr tb mt fhl fbl ftr hA_ bA_ tA_ apx apy act asd amv asl apl asw aor aon atw aup alw fo c cd ee zz) (tysL cJ cI cZ cH cB cT) "java/lang/IllegalArgumentException" (fun w_ => ∃ c', Pc c' ∧ w_ = (LWd cJ cI cZ cH cB cT out ob om ahl abl asr pb atr tb mt fhl fbl ftr hA_ bA_ tA_ apx apy act asd amv asl apl asw aor aon atw aup alw fo c' cd ee zz)) (fun A => va_Qi (fun _ (_ : Unit) => False) (fun _ _ => True) A)) : GHi l yL_box wsL_box rmH [.ref ob, .long a0, .long a1, .long a2, .long a3, .ref out] (dC, dI) (LWd cJ cI cZ cH cB cT out ob om ahl abl asr pb atr tb mt fhl fbl ftr hA_ bA_ tA_ apx apy act asd amv asl apl asw aor aon atw aup alw fo c cd ee zz) (tysL cJ cI cZ cH cB cT) (fun r_ w_ => r_ = nI 2 ∧ ∃ c', Pc c' ∧ w_ = (LWd cJ cI cZ cH cB cT out ob om ahl abl asr pb atr tb mt fhl fbl ftr hA_ bA_ tA_ apx apy act asd amv asl apl asw aor aon atw aup alw fo c' cd ee zz)) := by
  intro sz
  refine kOfH (cc := cL_box) (maxL := 11) (ret := some .int) (hh := [(0, 15, 18, 13), (0, 15, 22, 21)]) (by decide +kernel) rfl (Nat.le_of_ble_eq_true rfl) ?_
  intro p e s m below meth c_ hx hb hr hml hts hown hlocks htab hB ls hl
  obtain ⟨⟨⟨hsz, hP, hK, hD0⟩, hT⟩, hnc⟩ := hB
  subst hsz
  have hD := hD0.self (sz := s.heap.size)
  generalize hAe : va_A (LWd cJ cI cZ cH cB cT out ob om ahl abl asr pb atr tb mt fhl fbl ftr hA_ bA_ tA_ apx apy act asd amv asl apl asw aor aon atw aup alw fo c cd ee zz) s.heap.size = A at hD hT ⊢
  have hA : ∀ q : Nat, s.heap.size ≤ q → A q := fun q h => by rw [← hAe]; exact Or.inr h
  have hS : va_S A s.heap s.heap [] := va_S.rf
  have hl : lv_has ls 11 [(0, .ref ob), (1, .long a0), (3, .long a1), (5, .long a2), (7, .long a3), (9, .ref out)] := hl
  refine lv_aload hx hb dL_box_0 (lv_at hl 5 rfl) ?_
  refine lv_iconst (v := (nI 0)) hx hb dL_box_2 (by decide) ?_
  refine lv_aload_n hx hb dL_box_3 rfl (lv_at hl 0 rfl) ?_
  refine lv_lload_n hx hb dL_box_4 rfl (lv_at hl 1 rfl) ?_
  refine lv_lload_n hx hb dL_box_5 rfl (lv_at hl 2 rfl) ?_
  refine lv_lload hx hb dL_box_6 (lv_at hl 3 rfl) ?_
  refine lv_lload hx hb dL_box_8 (lv_at hl 4 rfl) ?_
  refine gXi (ci := 4) (q0 := 1) (As := [.long a0, .long a1, .long a2, .long a3]) (rest := [.int (nI 0), .ref out]) ⟨hx, hb, hml, hown, hts⟩ hM (cwV 4 hts gL_box_X4_box rfl rfl rfl (by decide +kernel) ⟨Nat.le_of_ble_eq_true rfl, Nat.le_of_ble_eq_true rfl⟩) hP hD hA hS hK hT rfl rfl rfl rfl hl.1 (Nat.le_of_ble_eq_true rfl) dL_box_10 ⟨Nat.le_of_ble_eq_true rfl, Nat.le_of_ble_eq_true rfl⟩ hown [⟨0, 15, 18, 13⟩] ⟨0, 15, 22, 21⟩ [] htab (List.forall_mem_cons.mpr ⟨Or.inr ⟨by decide, "java/lang/IllegalStateException", hts (.classLink RL 13 "java/lang/IllegalStateException") (by decide +kernel), hnc.2.2⟩, (fun z hz => absurd hz List.not_mem_nil)⟩) (by decide) (by decide) (hts (.classLink RL 21 "java/lang/IllegalArgumentException") (by decide +kernel)) (cast_at (hT.2.2.2 _ (List.mem_of_getElem? (i := 2) rfl))) (fun B2 H locs q9 hq hP hD hS => ?_)
  obtain ⟨c1, hc1, rfl⟩ := hq
  refine lv_astore (lv' := [(10, .ref q9), (0, .ref ob), (1, .long a0), (3, .long a1), (5, .long a2), (7, .long a3), (9, .ref out)]) hx hb dL_box_22 hl (by decide) rfl (fun ls hl => ?_)
  refine lv_iconst (v := (nI 2)) hx hb dL_box_24 (by decide) ?_
  exact kGi (w := (LWd cJ cI cZ cH cB cT out ob om ahl abl asr pb atr tb mt fhl fbl ftr hA_ bA_ tA_ apx apy act asd amv asl apl asw aor aon atw aup alw fo c1 cd ee zz)) hx hb hr hlocks ⟨rfl, c1, hc1, rfl⟩ hP hK hD hS dL_box_25
set_option maxHeartbeats 1000000 in
theorem hR_move (l : Launch) (dC : Nat → ClassId) (dI : Nat → Nat → Nat) (cJ cI cZ cH cB cT : ClassId) (out ob om ahl abl asr pb atr tb mt : Nat) (fhl fbl ftr : Nat → Option Nat) (hA_ : Nat → Nat × Nat × Nat × Nat × Nat) (bA_ tA_ : Nat → Nat) (apx apy act asd amv asl apl asw aor aon atw aup alw : Nat) (fo : Nat → Int64) (c : CD) (cd : Nat) (ee : ED) (zz : ZD) (a0 : Int32) (a1 : Int64) (a2 : Int64) (bb : Bool) (Pc : CD → Prop) (hM : GMi l yX4_move wsX4_move rmR [.ref ob, .int a0, .long a1, .long a2] (dC, dI) (LWd cJ cI cZ cH cB cT out ob om ahl abl asr pb atr tb mt fhl fbl ftr hA_ bA_ tA_ apx apy act asd amv asl apl asw aor aon atw aup alw fo c cd ee zz) (tysL cJ cI cZ cH cB cT) (fun r_ w_ => r_ = bI bb ∧ ∃ c', Pc c' ∧ w_ = (LWd cJ cI cZ cH cB cT out ob om ahl abl asr pb atr tb mt fhl fbl ftr hA_ bA_ tA_ apx apy act asd amv asl apl asw aor aon atw aup alw fo c' cd ee zz))) : GHi l yL_move wsL_move rmH [.ref ob, .int a0, .long a1, .long a2, .ref out] (dC, dI) (LWd cJ cI cZ cH cB cT out ob om ahl abl asr pb atr tb mt fhl fbl ftr hA_ bA_ tA_ apx apy act asd amv asl apl asw aor aon atw aup alw fo c cd ee zz) (tysL cJ cI cZ cH cB cT) (fun r_ w_ => r_ = nI 0 ∧ ∃ c', Pc c' ∧ w_ = (LWd cJ cI cZ cH cB cT out ob om ahl abl asr pb atr tb mt fhl fbl ftr hA_ bA_ tA_ apx apy act asd amv asl apl asw aor aon atw aup alw (vp_updL fo 0 (bL bb)) c' cd ee zz)) := by
  intro sz
  refine kOfH (cc := cL_move) (maxL := 8) (ret := some .int) (hh := [(0, 20, 23, 19), (0, 20, 27, 21)]) (by decide +kernel) rfl (Nat.le_of_ble_eq_true rfl) ?_
  intro p e s m below meth c_ hx hb hr hml hts hown hlocks htab hB ls hl
  obtain ⟨⟨⟨hsz, hP, hK, hD0⟩, hT⟩, hnc⟩ := hB
  subst hsz
  have hD := hD0.self (sz := s.heap.size)
  generalize hAe : va_A (LWd cJ cI cZ cH cB cT out ob om ahl abl asr pb atr tb mt fhl fbl ftr hA_ bA_ tA_ apx apy act asd amv asl apl asw aor aon atw aup alw fo c cd ee zz) s.heap.size = A at hD hT ⊢
  have hA : ∀ q : Nat, s.heap.size ≤ q → A q := fun q h => by rw [← hAe]; exact Or.inr h
  have hS : va_S A s.heap s.heap [] := va_S.rf
  have hl : lv_has ls 8 [(0, .ref ob), (1, .int a0), (2, .long a1), (4, .long a2), (6, .ref out)] := hl
  refine lv_aload hx hb dL_move_0 (lv_at hl 4 rfl) ?_
  refine lv_iconst (v := (nI 0)) hx hb dL_move_2 (by decide) ?_
  refine lv_aload_n hx hb dL_move_3 rfl (lv_at hl 0 rfl) ?_
  refine lv_iload_n hx hb dL_move_4 rfl (lv_at hl 1 rfl) ?_
  refine lv_lload_n hx hb dL_move_5 rfl (lv_at hl 2 rfl) ?_
  refine lv_lload hx hb dL_move_6 (lv_at hl 3 rfl) ?_
  refine gVi (ci := 4) (q0 := 1) (As := [.int a0, .long a1, .long a2]) (rest := [.int (nI 0), .ref out]) ⟨hx, hb, hml, hown, hts⟩ hM (cwV 3 hts gL_move_X4_move rfl rfl rfl (by decide +kernel) ⟨Nat.le_of_ble_eq_true rfl, Nat.le_of_ble_eq_true rfl⟩) hP hD hA hS hK rfl rfl rfl rfl hl.1 (Nat.le_of_ble_eq_true rfl) dL_move_8 ⟨Nat.le_of_ble_eq_true rfl, Nat.le_of_ble_eq_true rfl⟩ (fun r B2 H locs hq hP hD hS => ?_)
  obtain ⟨hres, c1, hc1, rfl⟩ := hq
  replace hres := hres.symm
  subst hres
  refine lv_if_eq (tgt := 18) hx hb dL_move_11 (by decide) (fun cz => ?_) (fun cz => ?_)
  · have hbb : bb = false := bI_0 cz
    subst hbb
    refine lv_lconst (v := 0) hx hb dL_move_18 (by decide) ?_
    refine va_last hx hb hK hP hD hS 0 0 rfl rfl (vp_in_nI (show 0 < 1 by omega) (by omega)) dL_move_19 (fun H locs hP hD hS => ?_)
    rw [show (nI 0).toNatClampNeg = 0 from nI_clamp (show 0 < 2 ^ 31 by omega)] at hP hD
    refine lv_goto (tgt := 31) hx hb dL_move_20 (by decide) ?_
    refine lv_iconst (v := (nI 0)) hx hb dL_move_31 (by decide) ?_
    refine W.widen (k := 1) (n := 6) (by decide) (by decide) ?_
    exact kGi (w := (LWd cJ cI cZ cH cB cT out ob om ahl abl asr pb atr tb mt fhl fbl ftr hA_ bA_ tA_ apx apy act asd amv asl apl asw aor aon atw aup alw (vp_updL fo 0 (bL false)) c1 cd ee zz)) hx hb hr hlocks ⟨rfl, c1, hc1, rfl⟩ hP hK hD hS dL_move_32
  · have hbb : bb = true := bI_n cz
    subst hbb
    refine lv_lconst (v := 1) hx hb dL_move_14 (by decide) ?_
    refine lv_goto (tgt := 19) hx hb dL_move_15 (by decide) ?_
    refine va_last hx hb hK hP hD hS 0 0 rfl rfl (vp_in_nI (show 0 < 1 by omega) (by omega)) dL_move_19 (fun H locs hP hD hS => ?_)
    rw [show (nI 0).toNatClampNeg = 0 from nI_clamp (show 0 < 2 ^ 31 by omega)] at hP hD
    refine lv_goto (tgt := 31) hx hb dL_move_20 (by decide) ?_
    refine lv_iconst (v := (nI 0)) hx hb dL_move_31 (by decide) ?_
    refine W.widen (k := 1) (n := 6) (by decide) (by decide) ?_
    exact kGi (w := (LWd cJ cI cZ cH cB cT out ob om ahl abl asr pb atr tb mt fhl fbl ftr hA_ bA_ tA_ apx apy act asd amv asl apl asw aor aon atw aup alw (vp_updL fo 0 (bL true)) c1 cd ee zz)) hx hb hr hlocks ⟨rfl, c1, hc1, rfl⟩ hP hK hD hS dL_move_32
set_option maxHeartbeats 1000000 in
theorem hT_move_1 (l : Launch) (dC : Nat → ClassId) (dI : Nat → Nat → Nat) (cJ cI cZ cH cB cT : ClassId) (out ob om ahl abl asr pb atr tb mt : Nat) (fhl fbl ftr : Nat → Option Nat) (hA_ : Nat → Nat × Nat × Nat × Nat × Nat) (bA_ tA_ : Nat → Nat) (apx apy act asd amv asl apl asw aor aon atw aup alw : Nat) (fo : Nat → Int64) (c : CD) (cd : Nat) (ee : ED) (zz : ZD) (a0 : Int32) (a1 : Int64) (a2 : Int64) (Pc : CD → Prop) (hM : GTx l yX4_move wsX4_move rmT [.ref ob, .int a0, .long a1, .long a2] (dC, dI) (LWd cJ cI cZ cH cB cT out ob om ahl abl asr pb atr tb mt fhl fbl ftr hA_ bA_ tA_ apx apy act asd amv asl apl asw aor aon atw aup alw fo c cd ee zz) (tysL cJ cI cZ cH cB cT) "java/lang/IndexOutOfBoundsException" (fun w_ => ∃ c', Pc c' ∧ w_ = (LWd cJ cI cZ cH cB cT out ob om ahl abl asr pb atr tb mt fhl fbl ftr hA_ bA_ tA_ apx apy act asd amv asl apl asw aor aon atw aup alw fo c' cd ee zz)) (fun A => va_Qi (fun _ (_ : Unit) => False) (fun _ _ => True) A)) : GHi l yL_move wsL_move rmH [.ref ob, .int a0, .long a1, .long a2, .ref out] (dC, dI) (LWd cJ cI cZ cH cB cT out ob om ahl abl asr pb atr tb mt fhl fbl ftr hA_ bA_ tA_ apx apy act asd amv asl apl asw aor aon atw aup alw fo c cd ee zz) (tysL cJ cI cZ cH cB cT) (fun r_ w_ => r_ = nI 1 ∧ ∃ c', Pc c' ∧ w_ = (LWd cJ cI cZ cH cB cT out ob om ahl abl asr pb atr tb mt fhl fbl ftr hA_ bA_ tA_ apx apy act asd amv asl apl asw aor aon atw aup alw fo c' cd ee zz)) := by
  intro sz
  refine kOfH (cc := cL_move) (maxL := 8) (ret := some .int) (hh := [(0, 20, 23, 19), (0, 20, 27, 21)]) (by decide +kernel) rfl (Nat.le_of_ble_eq_true rfl) ?_
  intro p e s m below meth c_ hx hb hr hml hts hown hlocks htab hB ls hl
  obtain ⟨⟨⟨hsz, hP, hK, hD0⟩, hT⟩, hnc⟩ := hB
  subst hsz
  have hD := hD0.self (sz := s.heap.size)
  generalize hAe : va_A (LWd cJ cI cZ cH cB cT out ob om ahl abl asr pb atr tb mt fhl fbl ftr hA_ bA_ tA_ apx apy act asd amv asl apl asw aor aon atw aup alw fo c cd ee zz) s.heap.size = A at hD hT ⊢
  have hA : ∀ q : Nat, s.heap.size ≤ q → A q := fun q h => by rw [← hAe]; exact Or.inr h
  have hS : va_S A s.heap s.heap [] := va_S.rf
  have hl : lv_has ls 8 [(0, .ref ob), (1, .int a0), (2, .long a1), (4, .long a2), (6, .ref out)] := hl
  refine lv_aload hx hb dL_move_0 (lv_at hl 4 rfl) ?_
  refine lv_iconst (v := (nI 0)) hx hb dL_move_2 (by decide) ?_
  refine lv_aload_n hx hb dL_move_3 rfl (lv_at hl 0 rfl) ?_
  refine lv_iload_n hx hb dL_move_4 rfl (lv_at hl 1 rfl) ?_
  refine lv_lload_n hx hb dL_move_5 rfl (lv_at hl 2 rfl) ?_
  refine lv_lload hx hb dL_move_6 (lv_at hl 3 rfl) ?_
  refine gXi (ci := 4) (q0 := 1) (As := [.int a0, .long a1, .long a2]) (rest := [.int (nI 0), .ref out]) ⟨hx, hb, hml, hown, hts⟩ hM (cwV 3 hts gL_move_X4_move rfl rfl rfl (by decide +kernel) ⟨Nat.le_of_ble_eq_true rfl, Nat.le_of_ble_eq_true rfl⟩) hP hD hA hS hK hT rfl rfl rfl rfl hl.1 (Nat.le_of_ble_eq_true rfl) dL_move_8 ⟨Nat.le_of_ble_eq_true rfl, Nat.le_of_ble_eq_true rfl⟩ hown [] ⟨0, 20, 23, 19⟩ [⟨0, 20, 27, 21⟩] htab (fun z hz => absurd hz List.not_mem_nil) (by decide) (by decide) (hts (.classLink RL 19 "java/lang/IndexOutOfBoundsException") (by decide +kernel)) (cast_at (hT.2.2.2 _ (List.mem_of_getElem? (i := 1) rfl))) (fun B2 H locs q9 hq hP hD hS => ?_)
  obtain ⟨c1, hc1, rfl⟩ := hq
  refine lv_astore (lv' := [(7, .ref q9), (0, .ref ob), (1, .int a0), (2, .long a1), (4, .long a2), (6, .ref out)]) hx hb dL_move_23 hl (by decide) rfl (fun ls hl => ?_)
  refine lv_iconst (v := (nI 1)) hx hb dL_move_25 (by decide) ?_
  exact kGi (w := (LWd cJ cI cZ cH cB cT out ob om ahl abl asr pb atr tb mt fhl fbl ftr hA_ bA_ tA_ apx apy act asd amv asl apl asw aor aon atw aup alw fo c1 cd ee zz)) hx hb hr hlocks ⟨rfl, c1, hc1, rfl⟩ hP hK hD hS dL_move_26
set_option maxHeartbeats 1000000 in
theorem hT_move_2 (l : Launch) (dC : Nat → ClassId) (dI : Nat → Nat → Nat) (cJ cI cZ cH cB cT : ClassId) (out ob om ahl abl asr pb atr tb mt : Nat) (fhl fbl ftr : Nat → Option Nat) (hA_ : Nat → Nat × Nat × Nat × Nat × Nat) (bA_ tA_ : Nat → Nat) (apx apy act asd amv asl apl asw aor aon atw aup alw : Nat) (fo : Nat → Int64) (c : CD) (cd : Nat) (ee : ED) (zz : ZD) (a0 : Int32) (a1 : Int64) (a2 : Int64) (Pc : CD → Prop) (hM : GTx l yX4_move wsX4_move rmT [.ref ob, .int a0, .long a1, .long a2] (dC, dI) (LWd cJ cI cZ cH cB cT out ob om ahl abl asr pb atr tb mt fhl fbl ftr hA_ bA_ tA_ apx apy act asd amv asl apl asw aor aon atw aup alw fo c cd ee zz) (tysL cJ cI cZ cH cB cT) "java/lang/IllegalArgumentException" (fun w_ => ∃ c', Pc c' ∧ w_ = (LWd cJ cI cZ cH cB cT out ob om ahl abl asr pb atr tb mt fhl fbl ftr hA_ bA_ tA_ apx apy act asd amv asl apl asw aor aon atw aup alw fo c' cd ee zz)) (fun A => va_Qi (fun _ (_ : Unit) => False) (fun _ _ => True) A)) : GHi l yL_move wsL_move rmH [.ref ob, .int a0, .long a1, .long a2, .ref out] (dC, dI) (LWd cJ cI cZ cH cB cT out ob om ahl abl asr pb atr tb mt fhl fbl ftr hA_ bA_ tA_ apx apy act asd amv asl apl asw aor aon atw aup alw fo c cd ee zz) (tysL cJ cI cZ cH cB cT) (fun r_ w_ => r_ = nI 2 ∧ ∃ c', Pc c' ∧ w_ = (LWd cJ cI cZ cH cB cT out ob om ahl abl asr pb atr tb mt fhl fbl ftr hA_ bA_ tA_ apx apy act asd amv asl apl asw aor aon atw aup alw fo c' cd ee zz)) := by
  intro sz
  refine kOfH (cc := cL_move) (maxL := 8) (ret := some .int) (hh := [(0, 20, 23, 19), (0, 20, 27, 21)]) (by decide +kernel) rfl (Nat.le_of_ble_eq_true rfl) ?_
  intro p e s m below meth c_ hx hb hr hml hts hown hlocks htab hB ls hl
  obtain ⟨⟨⟨hsz, hP, hK, hD0⟩, hT⟩, hnc⟩ := hB
  subst hsz
  have hD := hD0.self (sz := s.heap.size)
  generalize hAe : va_A (LWd cJ cI cZ cH cB cT out ob om ahl abl asr pb atr tb mt fhl fbl ftr hA_ bA_ tA_ apx apy act asd amv asl apl asw aor aon atw aup alw fo c cd ee zz) s.heap.size = A at hD hT ⊢
  have hA : ∀ q : Nat, s.heap.size ≤ q → A q := fun q h => by rw [← hAe]; exact Or.inr h
  have hS : va_S A s.heap s.heap [] := va_S.rf
  have hl : lv_has ls 8 [(0, .ref ob), (1, .int a0), (2, .long a1), (4, .long a2), (6, .ref out)] := hl
  refine lv_aload hx hb dL_move_0 (lv_at hl 4 rfl) ?_
  refine lv_iconst (v := (nI 0)) hx hb dL_move_2 (by decide) ?_
  refine lv_aload_n hx hb dL_move_3 rfl (lv_at hl 0 rfl) ?_
  refine lv_iload_n hx hb dL_move_4 rfl (lv_at hl 1 rfl) ?_
  refine lv_lload_n hx hb dL_move_5 rfl (lv_at hl 2 rfl) ?_
  refine lv_lload hx hb dL_move_6 (lv_at hl 3 rfl) ?_
  refine gXi (ci := 4) (q0 := 1) (As := [.int a0, .long a1, .long a2]) (rest := [.int (nI 0), .ref out]) ⟨hx, hb, hml, hown, hts⟩ hM (cwV 3 hts gL_move_X4_move rfl rfl rfl (by decide +kernel) ⟨Nat.le_of_ble_eq_true rfl, Nat.le_of_ble_eq_true rfl⟩) hP hD hA hS hK hT rfl rfl rfl rfl hl.1 (Nat.le_of_ble_eq_true rfl) dL_move_8 ⟨Nat.le_of_ble_eq_true rfl, Nat.le_of_ble_eq_true rfl⟩ hown [⟨0, 20, 23, 19⟩] ⟨0, 20, 27, 21⟩ [] htab (List.forall_mem_cons.mpr ⟨Or.inr ⟨by decide, "java/lang/IndexOutOfBoundsException", hts (.classLink RL 19 "java/lang/IndexOutOfBoundsException") (by decide +kernel), hnc.2.1⟩, (fun z hz => absurd hz List.not_mem_nil)⟩) (by decide) (by decide) (hts (.classLink RL 21 "java/lang/IllegalArgumentException") (by decide +kernel)) (cast_at (hT.2.2.2 _ (List.mem_of_getElem? (i := 2) rfl))) (fun B2 H locs q9 hq hP hD hS => ?_)
  obtain ⟨c1, hc1, rfl⟩ := hq
  refine lv_astore (lv' := [(7, .ref q9), (0, .ref ob), (1, .int a0), (2, .long a1), (4, .long a2), (6, .ref out)]) hx hb dL_move_27 hl (by decide) rfl (fun ls hl => ?_)
  refine lv_iconst (v := (nI 2)) hx hb dL_move_29 (by decide) ?_
  exact kGi (w := (LWd cJ cI cZ cH cB cT out ob om ahl abl asr pb atr tb mt fhl fbl ftr hA_ bA_ tA_ apx apy act asd amv asl apl asw aor aon atw aup alw fo c1 cd ee zz)) hx hb hr hlocks ⟨rfl, c1, hc1, rfl⟩ hP hK hD hS dL_move_30
set_option maxHeartbeats 1000000 in
theorem hR_touch (l : Launch) (dC : Nat → ClassId) (dI : Nat → Nat → Nat) (cJ cI cZ cH cB cT : ClassId) (out ob om ahl abl asr pb atr tb mt : Nat) (fhl fbl ftr : Nat → Option Nat) (hA_ : Nat → Nat × Nat × Nat × Nat × Nat) (bA_ tA_ : Nat → Nat) (apx apy act asd amv asl apl asw aor aon atw aup alw : Nat) (fo : Nat → Int64) (c : CD) (cd : Nat) (ee : ED) (zz : ZD) (a0 : Int32) (a1 : Int32) (a2 : Int32) (res : Int64) (Pc : CD → Prop) (hM : GMl l yX4_touch wsX4_touch rmR [.ref ob, .int a0, .int a1, .int a2] (dC, dI) (LWd cJ cI cZ cH cB cT out ob om ahl abl asr pb atr tb mt fhl fbl ftr hA_ bA_ tA_ apx apy act asd amv asl apl asw aor aon atw aup alw fo c cd ee zz) (tysL cJ cI cZ cH cB cT) (fun r_ w_ => r_ = res ∧ ∃ c', Pc c' ∧ w_ = (LWd cJ cI cZ cH cB cT out ob om ahl abl asr pb atr tb mt fhl fbl ftr hA_ bA_ tA_ apx apy act asd amv asl apl asw aor aon atw aup alw fo c' cd ee zz))) : GHi l yL_touch wsL_touch rmH [.ref ob, .int a0, .int a1, .int a2, .ref out] (dC, dI) (LWd cJ cI cZ cH cB cT out ob om ahl abl asr pb atr tb mt fhl fbl ftr hA_ bA_ tA_ apx apy act asd amv asl apl asw aor aon atw aup alw fo c cd ee zz) (tysL cJ cI cZ cH cB cT) (fun r_ w_ => r_ = nI 0 ∧ ∃ c', Pc c' ∧ w_ = (LWd cJ cI cZ cH cB cT out ob om ahl abl asr pb atr tb mt fhl fbl ftr hA_ bA_ tA_ apx apy act asd amv asl apl asw aor aon atw aup alw (vp_updL fo 0 res) c' cd ee zz)) := by
  intro sz
  refine kOfH (cc := cL_touch) (maxL := 6) (ret := some .int) (hh := [(0, 11, 14, 19)]) (by decide +kernel) rfl (Nat.le_of_ble_eq_true rfl) ?_
  intro p e s m below meth c_ hx hb hr hml hts hown hlocks htab hB ls hl
  obtain ⟨⟨⟨hsz, hP, hK, hD0⟩, hT⟩, hnc⟩ := hB
  subst hsz
  have hD := hD0.self (sz := s.heap.size)
  generalize hAe : va_A (LWd cJ cI cZ cH cB cT out ob om ahl abl asr pb atr tb mt fhl fbl ftr hA_ bA_ tA_ apx apy act asd amv asl apl asw aor aon atw aup alw fo c cd ee zz) s.heap.size = A at hD hT ⊢
  have hA : ∀ q : Nat, s.heap.size ≤ q → A q := fun q h => by rw [← hAe]; exact Or.inr h
  have hS : va_S A s.heap s.heap [] := va_S.rf
  have hl : lv_has ls 6 [(0, .ref ob), (1, .int a0), (2, .int a1), (3, .int a2), (4, .ref out)] := hl
  refine lv_aload hx hb dL_touch_0 (lv_at hl 4 rfl) ?_
  refine lv_iconst (v := (nI 0)) hx hb dL_touch_2 (by decide) ?_
  refine lv_aload_n hx hb dL_touch_3 rfl (lv_at hl 0 rfl) ?_
  refine lv_iload_n hx hb dL_touch_4 rfl (lv_at hl 1 rfl) ?_
  refine lv_iload_n hx hb dL_touch_5 rfl (lv_at hl 2 rfl) ?_
  refine lv_iload_n hx hb dL_touch_6 rfl (lv_at hl 3 rfl) ?_
  refine gVl (ci := 4) (q0 := 1) (As := [.int a0, .int a1, .int a2]) (rest := [.int (nI 0), .ref out]) ⟨hx, hb, hml, hown, hts⟩ hM (cwV 3 hts gL_touch_X4_touch rfl rfl rfl (by decide +kernel) ⟨Nat.le_of_ble_eq_true rfl, Nat.le_of_ble_eq_true rfl⟩) hP hD hA hS hK rfl rfl rfl rfl hl.1 (Nat.le_of_ble_eq_true rfl) dL_touch_7 ⟨Nat.le_of_ble_eq_true rfl, Nat.le_of_ble_eq_true rfl⟩ (fun r B2 H locs hq hP hD hS => ?_)
  obtain ⟨hres, c1, hc1, rfl⟩ := hq
  replace hres := hres.symm
  subst hres
  refine va_last hx hb hK hP hD hS 0 0 rfl rfl (vp_in_nI (show 0 < 1 by omega) (by omega)) dL_touch_10 (fun H locs hP hD hS => ?_)
  rw [show (nI 0).toNatClampNeg = 0 from nI_clamp (show 0 < 2 ^ 31 by omega)] at hP hD
  refine lv_goto (tgt := 18) hx hb dL_touch_11 (by decide) ?_
  refine lv_iconst (v := (nI 0)) hx hb dL_touch_18 (by decide) ?_
  refine W.widen (k := 1) (n := 6) (by decide) (by decide) ?_
  exact kGi (w := (LWd cJ cI cZ cH cB cT out ob om ahl abl asr pb atr tb mt fhl fbl ftr hA_ bA_ tA_ apx apy act asd amv asl apl asw aor aon atw aup alw (vp_updL fo 0 res) c1 cd ee zz)) hx hb hr hlocks ⟨rfl, c1, hc1, rfl⟩ hP hK hD hS dL_touch_19
set_option maxHeartbeats 1000000 in
theorem hT_touch_1 (l : Launch) (dC : Nat → ClassId) (dI : Nat → Nat → Nat) (cJ cI cZ cH cB cT : ClassId) (out ob om ahl abl asr pb atr tb mt : Nat) (fhl fbl ftr : Nat → Option Nat) (hA_ : Nat → Nat × Nat × Nat × Nat × Nat) (bA_ tA_ : Nat → Nat) (apx apy act asd amv asl apl asw aor aon atw aup alw : Nat) (fo : Nat → Int64) (c : CD) (cd : Nat) (ee : ED) (zz : ZD) (a0 : Int32) (a1 : Int32) (a2 : Int32) (Pc : CD → Prop) (hM : GTx l yX4_touch wsX4_touch rmT [.ref ob, .int a0, .int a1, .int a2] (dC, dI) (LWd cJ cI cZ cH cB cT out ob om ahl abl asr pb atr tb mt fhl fbl ftr hA_ bA_ tA_ apx apy act asd amv asl apl asw aor aon atw aup alw fo c cd ee zz) (tysL cJ cI cZ cH cB cT) "java/lang/IndexOutOfBoundsException" (fun w_ => ∃ c', Pc c' ∧ w_ = (LWd cJ cI cZ cH cB cT out ob om ahl abl asr pb atr tb mt fhl fbl ftr hA_ bA_ tA_ apx apy act asd amv asl apl asw aor aon atw aup alw fo c' cd ee zz)) (fun A => va_Ql (fun _ (_ : Unit) => False) (fun _ _ => True) A)) : GHi l yL_touch wsL_touch rmH [.ref ob, .int a0, .int a1, .int a2, .ref out] (dC, dI) (LWd cJ cI cZ cH cB cT out ob om ahl abl asr pb atr tb mt fhl fbl ftr hA_ bA_ tA_ apx apy act asd amv asl apl asw aor aon atw aup alw fo c cd ee zz) (tysL cJ cI cZ cH cB cT) (fun r_ w_ => r_ = nI 1 ∧ ∃ c', Pc c' ∧ w_ = (LWd cJ cI cZ cH cB cT out ob om ahl abl asr pb atr tb mt fhl fbl ftr hA_ bA_ tA_ apx apy act asd amv asl apl asw aor aon atw aup alw fo c' cd ee zz)) := by
  intro sz
  refine kOfH (cc := cL_touch) (maxL := 6) (ret := some .int) (hh := [(0, 11, 14, 19)]) (by decide +kernel) rfl (Nat.le_of_ble_eq_true rfl) ?_
  intro p e s m below meth c_ hx hb hr hml hts hown hlocks htab hB ls hl
  obtain ⟨⟨⟨hsz, hP, hK, hD0⟩, hT⟩, hnc⟩ := hB
  subst hsz
  have hD := hD0.self (sz := s.heap.size)
  generalize hAe : va_A (LWd cJ cI cZ cH cB cT out ob om ahl abl asr pb atr tb mt fhl fbl ftr hA_ bA_ tA_ apx apy act asd amv asl apl asw aor aon atw aup alw fo c cd ee zz) s.heap.size = A at hD hT ⊢
  have hA : ∀ q : Nat, s.heap.size ≤ q → A q := fun q h => by rw [← hAe]; exact Or.inr h
  have hS : va_S A s.heap s.heap [] := va_S.rf
  have hl : lv_has ls 6 [(0, .ref ob), (1, .int a0), (2, .int a1), (3, .int a2), (4, .ref out)] := hl
  refine lv_aload hx hb dL_touch_0 (lv_at hl 4 rfl) ?_
  refine lv_iconst (v := (nI 0)) hx hb dL_touch_2 (by decide) ?_
  refine lv_aload_n hx hb dL_touch_3 rfl (lv_at hl 0 rfl) ?_
  refine lv_iload_n hx hb dL_touch_4 rfl (lv_at hl 1 rfl) ?_
  refine lv_iload_n hx hb dL_touch_5 rfl (lv_at hl 2 rfl) ?_
  refine lv_iload_n hx hb dL_touch_6 rfl (lv_at hl 3 rfl) ?_
  refine gXl (ci := 4) (q0 := 1) (As := [.int a0, .int a1, .int a2]) (rest := [.int (nI 0), .ref out]) ⟨hx, hb, hml, hown, hts⟩ hM (cwV 3 hts gL_touch_X4_touch rfl rfl rfl (by decide +kernel) ⟨Nat.le_of_ble_eq_true rfl, Nat.le_of_ble_eq_true rfl⟩) hP hD hA hS hK hT rfl rfl rfl rfl hl.1 (Nat.le_of_ble_eq_true rfl) dL_touch_7 ⟨Nat.le_of_ble_eq_true rfl, Nat.le_of_ble_eq_true rfl⟩ hown [] ⟨0, 11, 14, 19⟩ [] htab (fun z hz => absurd hz List.not_mem_nil) (by decide) (by decide) (hts (.classLink RL 19 "java/lang/IndexOutOfBoundsException") (by decide +kernel)) (cast_at (hT.2.2.2 _ (List.mem_of_getElem? (i := 1) rfl))) (fun B2 H locs q9 hq hP hD hS => ?_)
  obtain ⟨c1, hc1, rfl⟩ := hq
  refine lv_astore (lv' := [(5, .ref q9), (0, .ref ob), (1, .int a0), (2, .int a1), (3, .int a2), (4, .ref out)]) hx hb dL_touch_14 hl (by decide) rfl (fun ls hl => ?_)
  refine lv_iconst (v := (nI 1)) hx hb dL_touch_16 (by decide) ?_
  exact kGi (w := (LWd cJ cI cZ cH cB cT out ob om ahl abl asr pb atr tb mt fhl fbl ftr hA_ bA_ tA_ apx apy act asd amv asl apl asw aor aon atw aup alw fo c1 cd ee zz)) hx hb hr hlocks ⟨rfl, c1, hc1, rfl⟩ hP hK hD hS dL_touch_17
set_option maxHeartbeats 1000000 in
theorem hR_overlap (l : Launch) (dC : Nat → ClassId) (dI : Nat → Nat → Nat) (cJ cI cZ cH cB cT : ClassId) (out ob om ahl abl asr pb atr tb mt : Nat) (fhl fbl ftr : Nat → Option Nat) (hA_ : Nat → Nat × Nat × Nat × Nat × Nat) (bA_ tA_ : Nat → Nat) (apx apy act asd amv asl apl asw aor aon atw aup alw : Nat) (fo : Nat → Int64) (c : CD) (cd : Nat) (ee : ED) (zz : ZD) (a0 : Int32) (a1 : Int32) (a2 : Int32) (res : Int64) (Pc : CD → Prop) (hM : GMl l yX4_overlap wsX4_overlap rmR [.ref ob, .int a0, .int a1, .int a2] (dC, dI) (LWd cJ cI cZ cH cB cT out ob om ahl abl asr pb atr tb mt fhl fbl ftr hA_ bA_ tA_ apx apy act asd amv asl apl asw aor aon atw aup alw fo c cd ee zz) (tysL cJ cI cZ cH cB cT) (fun r_ w_ => r_ = res ∧ ∃ c', Pc c' ∧ w_ = (LWd cJ cI cZ cH cB cT out ob om ahl abl asr pb atr tb mt fhl fbl ftr hA_ bA_ tA_ apx apy act asd amv asl apl asw aor aon atw aup alw fo c' cd ee zz))) : GHi l yL_overlap wsL_overlap rmH [.ref ob, .int a0, .int a1, .int a2, .ref out] (dC, dI) (LWd cJ cI cZ cH cB cT out ob om ahl abl asr pb atr tb mt fhl fbl ftr hA_ bA_ tA_ apx apy act asd amv asl apl asw aor aon atw aup alw fo c cd ee zz) (tysL cJ cI cZ cH cB cT) (fun r_ w_ => r_ = nI 0 ∧ ∃ c', Pc c' ∧ w_ = (LWd cJ cI cZ cH cB cT out ob om ahl abl asr pb atr tb mt fhl fbl ftr hA_ bA_ tA_ apx apy act asd amv asl apl asw aor aon atw aup alw (vp_updL fo 0 res) c' cd ee zz)) := by
  intro sz
  refine kOfH (cc := cL_overlap) (maxL := 6) (ret := some .int) (hh := [(0, 11, 14, 19)]) (by decide +kernel) rfl (Nat.le_of_ble_eq_true rfl) ?_
  intro p e s m below meth c_ hx hb hr hml hts hown hlocks htab hB ls hl
  obtain ⟨⟨⟨hsz, hP, hK, hD0⟩, hT⟩, hnc⟩ := hB
  subst hsz
  have hD := hD0.self (sz := s.heap.size)
  generalize hAe : va_A (LWd cJ cI cZ cH cB cT out ob om ahl abl asr pb atr tb mt fhl fbl ftr hA_ bA_ tA_ apx apy act asd amv asl apl asw aor aon atw aup alw fo c cd ee zz) s.heap.size = A at hD hT ⊢
  have hA : ∀ q : Nat, s.heap.size ≤ q → A q := fun q h => by rw [← hAe]; exact Or.inr h
  have hS : va_S A s.heap s.heap [] := va_S.rf
  have hl : lv_has ls 6 [(0, .ref ob), (1, .int a0), (2, .int a1), (3, .int a2), (4, .ref out)] := hl
  refine lv_aload hx hb dL_overlap_0 (lv_at hl 4 rfl) ?_
  refine lv_iconst (v := (nI 0)) hx hb dL_overlap_2 (by decide) ?_
  refine lv_aload_n hx hb dL_overlap_3 rfl (lv_at hl 0 rfl) ?_
  refine lv_iload_n hx hb dL_overlap_4 rfl (lv_at hl 1 rfl) ?_
  refine lv_iload_n hx hb dL_overlap_5 rfl (lv_at hl 2 rfl) ?_
  refine lv_iload_n hx hb dL_overlap_6 rfl (lv_at hl 3 rfl) ?_
  refine gVl (ci := 4) (q0 := 1) (As := [.int a0, .int a1, .int a2]) (rest := [.int (nI 0), .ref out]) ⟨hx, hb, hml, hown, hts⟩ hM (cwV 3 hts gL_overlap_X4_overlap rfl rfl rfl (by decide +kernel) ⟨Nat.le_of_ble_eq_true rfl, Nat.le_of_ble_eq_true rfl⟩) hP hD hA hS hK rfl rfl rfl rfl hl.1 (Nat.le_of_ble_eq_true rfl) dL_overlap_7 ⟨Nat.le_of_ble_eq_true rfl, Nat.le_of_ble_eq_true rfl⟩ (fun r B2 H locs hq hP hD hS => ?_)
  obtain ⟨hres, c1, hc1, rfl⟩ := hq
  replace hres := hres.symm
  subst hres
  refine va_last hx hb hK hP hD hS 0 0 rfl rfl (vp_in_nI (show 0 < 1 by omega) (by omega)) dL_overlap_10 (fun H locs hP hD hS => ?_)
  rw [show (nI 0).toNatClampNeg = 0 from nI_clamp (show 0 < 2 ^ 31 by omega)] at hP hD
  refine lv_goto (tgt := 18) hx hb dL_overlap_11 (by decide) ?_
  refine lv_iconst (v := (nI 0)) hx hb dL_overlap_18 (by decide) ?_
  refine W.widen (k := 1) (n := 6) (by decide) (by decide) ?_
  exact kGi (w := (LWd cJ cI cZ cH cB cT out ob om ahl abl asr pb atr tb mt fhl fbl ftr hA_ bA_ tA_ apx apy act asd amv asl apl asw aor aon atw aup alw (vp_updL fo 0 res) c1 cd ee zz)) hx hb hr hlocks ⟨rfl, c1, hc1, rfl⟩ hP hK hD hS dL_overlap_19
set_option maxHeartbeats 1000000 in
theorem hT_overlap_1 (l : Launch) (dC : Nat → ClassId) (dI : Nat → Nat → Nat) (cJ cI cZ cH cB cT : ClassId) (out ob om ahl abl asr pb atr tb mt : Nat) (fhl fbl ftr : Nat → Option Nat) (hA_ : Nat → Nat × Nat × Nat × Nat × Nat) (bA_ tA_ : Nat → Nat) (apx apy act asd amv asl apl asw aor aon atw aup alw : Nat) (fo : Nat → Int64) (c : CD) (cd : Nat) (ee : ED) (zz : ZD) (a0 : Int32) (a1 : Int32) (a2 : Int32) (Pc : CD → Prop) (hM : GTx l yX4_overlap wsX4_overlap rmT [.ref ob, .int a0, .int a1, .int a2] (dC, dI) (LWd cJ cI cZ cH cB cT out ob om ahl abl asr pb atr tb mt fhl fbl ftr hA_ bA_ tA_ apx apy act asd amv asl apl asw aor aon atw aup alw fo c cd ee zz) (tysL cJ cI cZ cH cB cT) "java/lang/IndexOutOfBoundsException" (fun w_ => ∃ c', Pc c' ∧ w_ = (LWd cJ cI cZ cH cB cT out ob om ahl abl asr pb atr tb mt fhl fbl ftr hA_ bA_ tA_ apx apy act asd amv asl apl asw aor aon atw aup alw fo c' cd ee zz)) (fun A => va_Ql (fun _ (_ : Unit) => False) (fun _ _ => True) A)) : GHi l yL_overlap wsL_overlap rmH [.ref ob, .int a0, .int a1, .int a2, .ref out] (dC, dI) (LWd cJ cI cZ cH cB cT out ob om ahl abl asr pb atr tb mt fhl fbl ftr hA_ bA_ tA_ apx apy act asd amv asl apl asw aor aon atw aup alw fo c cd ee zz) (tysL cJ cI cZ cH cB cT) (fun r_ w_ => r_ = nI 1 ∧ ∃ c', Pc c' ∧ w_ = (LWd cJ cI cZ cH cB cT out ob om ahl abl asr pb atr tb mt fhl fbl ftr hA_ bA_ tA_ apx apy act asd amv asl apl asw aor aon atw aup alw fo c' cd ee zz)) := by
  intro sz
  refine kOfH (cc := cL_overlap) (maxL := 6) (ret := some .int) (hh := [(0, 11, 14, 19)]) (by decide +kernel) rfl (Nat.le_of_ble_eq_true rfl) ?_
  intro p e s m below meth c_ hx hb hr hml hts hown hlocks htab hB ls hl
  obtain ⟨⟨⟨hsz, hP, hK, hD0⟩, hT⟩, hnc⟩ := hB
  subst hsz
  have hD := hD0.self (sz := s.heap.size)
  generalize hAe : va_A (LWd cJ cI cZ cH cB cT out ob om ahl abl asr pb atr tb mt fhl fbl ftr hA_ bA_ tA_ apx apy act asd amv asl apl asw aor aon atw aup alw fo c cd ee zz) s.heap.size = A at hD hT ⊢
  have hA : ∀ q : Nat, s.heap.size ≤ q → A q := fun q h => by rw [← hAe]; exact Or.inr h
  have hS : va_S A s.heap s.heap [] := va_S.rf
  have hl : lv_has ls 6 [(0, .ref ob), (1, .int a0), (2, .int a1), (3, .int a2), (4, .ref out)] := hl
  refine lv_aload hx hb dL_overlap_0 (lv_at hl 4 rfl) ?_
  refine lv_iconst (v := (nI 0)) hx hb dL_overlap_2 (by decide) ?_
  refine lv_aload_n hx hb dL_overlap_3 rfl (lv_at hl 0 rfl) ?_
  refine lv_iload_n hx hb dL_overlap_4 rfl (lv_at hl 1 rfl) ?_
  refine lv_iload_n hx hb dL_overlap_5 rfl (lv_at hl 2 rfl) ?_
  refine lv_iload_n hx hb dL_overlap_6 rfl (lv_at hl 3 rfl) ?_
  refine gXl (ci := 4) (q0 := 1) (As := [.int a0, .int a1, .int a2]) (rest := [.int (nI 0), .ref out]) ⟨hx, hb, hml, hown, hts⟩ hM (cwV 3 hts gL_overlap_X4_overlap rfl rfl rfl (by decide +kernel) ⟨Nat.le_of_ble_eq_true rfl, Nat.le_of_ble_eq_true rfl⟩) hP hD hA hS hK hT rfl rfl rfl rfl hl.1 (Nat.le_of_ble_eq_true rfl) dL_overlap_7 ⟨Nat.le_of_ble_eq_true rfl, Nat.le_of_ble_eq_true rfl⟩ hown [] ⟨0, 11, 14, 19⟩ [] htab (fun z hz => absurd hz List.not_mem_nil) (by decide) (by decide) (hts (.classLink RL 19 "java/lang/IndexOutOfBoundsException") (by decide +kernel)) (cast_at (hT.2.2.2 _ (List.mem_of_getElem? (i := 1) rfl))) (fun B2 H locs q9 hq hP hD hS => ?_)
  obtain ⟨c1, hc1, rfl⟩ := hq
  refine lv_astore (lv' := [(5, .ref q9), (0, .ref ob), (1, .int a0), (2, .int a1), (3, .int a2), (4, .ref out)]) hx hb dL_overlap_14 hl (by decide) rfl (fun ls hl => ?_)
  refine lv_iconst (v := (nI 1)) hx hb dL_overlap_16 (by decide) ?_
  exact kGi (w := (LWd cJ cI cZ cH cB cT out ob om ahl abl asr pb atr tb mt fhl fbl ftr hA_ bA_ tA_ apx apy act asd amv asl apl asw aor aon atw aup alw fo c1 cd ee zz)) hx hb hr hlocks ⟨rfl, c1, hc1, rfl⟩ hP hK hD hS dL_overlap_17
set_option maxHeartbeats 1000000 in
theorem hR_tile (l : Launch) (dC : Nat → ClassId) (dI : Nat → Nat → Nat) (cJ cI cZ cH cB cT : ClassId) (out ob om ahl abl asr pb atr tb mt : Nat) (fhl fbl ftr : Nat → Option Nat) (hA_ : Nat → Nat × Nat × Nat × Nat × Nat) (bA_ tA_ : Nat → Nat) (apx apy act asd amv asl apl asw aor aon atw aup alw : Nat) (fo : Nat → Int64) (c : CD) (cd : Nat) (ee : ED) (zz : ZD) (a0 : Int32) (a1 : Int32) (a2 : Int32) (bb : Bool) (Pc : CD → Prop) (hM : GMi l yX4_tile wsX4_tile rmR [.ref ob, .int a0, .int a1, .int a2] (dC, dI) (LWd cJ cI cZ cH cB cT out ob om ahl abl asr pb atr tb mt fhl fbl ftr hA_ bA_ tA_ apx apy act asd amv asl apl asw aor aon atw aup alw fo c cd ee zz) (tysL cJ cI cZ cH cB cT) (fun r_ w_ => r_ = bI bb ∧ ∃ c', Pc c' ∧ w_ = (LWd cJ cI cZ cH cB cT out ob om ahl abl asr pb atr tb mt fhl fbl ftr hA_ bA_ tA_ apx apy act asd amv asl apl asw aor aon atw aup alw fo c' cd ee zz))) : GHi l yL_tile wsL_tile rmH [.ref ob, .int a0, .int a1, .int a2, .ref out] (dC, dI) (LWd cJ cI cZ cH cB cT out ob om ahl abl asr pb atr tb mt fhl fbl ftr hA_ bA_ tA_ apx apy act asd amv asl apl asw aor aon atw aup alw fo c cd ee zz) (tysL cJ cI cZ cH cB cT) (fun r_ w_ => r_ = nI 0 ∧ ∃ c', Pc c' ∧ w_ = (LWd cJ cI cZ cH cB cT out ob om ahl abl asr pb atr tb mt fhl fbl ftr hA_ bA_ tA_ apx apy act asd amv asl apl asw aor aon atw aup alw (vp_updL fo 0 (bL bb)) c' cd ee zz)) := by
  intro sz
  refine kOfH (cc := cL_tile) (maxL := 6) (ret := some .int) (hh := [(0, 19, 22, 19), (0, 19, 26, 13)]) (by decide +kernel) rfl (Nat.le_of_ble_eq_true rfl) ?_
  intro p e s m below meth c_ hx hb hr hml hts hown hlocks htab hB ls hl
  obtain ⟨⟨⟨hsz, hP, hK, hD0⟩, hT⟩, hnc⟩ := hB
  subst hsz
  have hD := hD0.self (sz := s.heap.size)
  generalize hAe : va_A (LWd cJ cI cZ cH cB cT out ob om ahl abl asr pb atr tb mt fhl fbl ftr hA_ bA_ tA_ apx apy act asd amv asl apl asw aor aon atw aup alw fo c cd ee zz) s.heap.size = A at hD hT ⊢
  have hA : ∀ q : Nat, s.heap.size ≤ q → A q := fun q h => by rw [← hAe]; exact Or.inr h
  have hS : va_S A s.heap s.heap [] := va_S.rf
  have hl : lv_has ls 6 [(0, .ref ob), (1, .int a0), (2, .int a1), (3, .int a2), (4, .ref out)] := hl
  refine lv_aload hx hb dL_tile_0 (lv_at hl 4 rfl) ?_
  refine lv_iconst (v := (nI 0)) hx hb dL_tile_2 (by decide) ?_
  refine lv_aload_n hx hb dL_tile_3 rfl (lv_at hl 0 rfl) ?_
  refine lv_iload_n hx hb dL_tile_4 rfl (lv_at hl 1 rfl) ?_
  refine lv_iload_n hx hb dL_tile_5 rfl (lv_at hl 2 rfl) ?_
  refine lv_iload_n hx hb dL_tile_6 rfl (lv_at hl 3 rfl) ?_
  refine gVi (ci := 4) (q0 := 1) (As := [.int a0, .int a1, .int a2]) (rest := [.int (nI 0), .ref out]) ⟨hx, hb, hml, hown, hts⟩ hM (cwV 3 hts gL_tile_X4_tile rfl rfl rfl (by decide +kernel) ⟨Nat.le_of_ble_eq_true rfl, Nat.le_of_ble_eq_true rfl⟩) hP hD hA hS hK rfl rfl rfl rfl hl.1 (Nat.le_of_ble_eq_true rfl) dL_tile_7 ⟨Nat.le_of_ble_eq_true rfl, Nat.le_of_ble_eq_true rfl⟩ (fun r B2 H locs hq hP hD hS => ?_)
  obtain ⟨hres, c1, hc1, rfl⟩ := hq
  replace hres := hres.symm
  subst hres
  refine lv_if_eq (tgt := 17) hx hb dL_tile_10 (by decide) (fun cz => ?_) (fun cz => ?_)
  · have hbb : bb = false := bI_0 cz
    subst hbb
    refine lv_lconst (v := 0) hx hb dL_tile_17 (by decide) ?_
    refine va_last hx hb hK hP hD hS 0 0 rfl rfl (vp_in_nI (show 0 < 1 by omega) (by omega)) dL_tile_18 (fun H locs hP hD hS => ?_)
    rw [show (nI 0).toNatClampNeg = 0 from nI_clamp (show 0 < 2 ^ 31 by omega)] at hP hD
    refine lv_goto (tgt := 30) hx hb dL_tile_19 (by decide) ?_
    refine lv_iconst (v := (nI 0)) hx hb dL_tile_30 (by decide) ?_
    refine W.widen (k := 1) (n := 6) (by decide) (by decide) ?_
    exact kGi (w := (LWd cJ cI cZ cH cB cT out ob om ahl abl asr pb atr tb mt fhl fbl ftr hA_ bA_ tA_ apx apy act asd amv asl apl asw aor aon atw aup alw (vp_updL fo 0 (bL false)) c1 cd ee zz)) hx hb hr hlocks ⟨rfl, c1, hc1, rfl⟩ hP hK hD hS dL_tile_31
  · have hbb : bb = true := bI_n cz
    subst hbb
    refine lv_lconst (v := 1) hx hb dL_tile_13 (by decide) ?_
    refine lv_goto (tgt := 18) hx hb dL_tile_14 (by decide) ?_
    refine va_last hx hb hK hP hD hS 0 0 rfl rfl (vp_in_nI (show 0 < 1 by omega) (by omega)) dL_tile_18 (fun H locs hP hD hS => ?_)
    rw [show (nI 0).toNatClampNeg = 0 from nI_clamp (show 0 < 2 ^ 31 by omega)] at hP hD
    refine lv_goto (tgt := 30) hx hb dL_tile_19 (by decide) ?_
    refine lv_iconst (v := (nI 0)) hx hb dL_tile_30 (by decide) ?_
    refine W.widen (k := 1) (n := 6) (by decide) (by decide) ?_
    exact kGi (w := (LWd cJ cI cZ cH cB cT out ob om ahl abl asr pb atr tb mt fhl fbl ftr hA_ bA_ tA_ apx apy act asd amv asl apl asw aor aon atw aup alw (vp_updL fo 0 (bL true)) c1 cd ee zz)) hx hb hr hlocks ⟨rfl, c1, hc1, rfl⟩ hP hK hD hS dL_tile_31
set_option maxHeartbeats 1000000 in
theorem hT_tile_1 (l : Launch) (dC : Nat → ClassId) (dI : Nat → Nat → Nat) (cJ cI cZ cH cB cT : ClassId) (out ob om ahl abl asr pb atr tb mt : Nat) (fhl fbl ftr : Nat → Option Nat) (hA_ : Nat → Nat × Nat × Nat × Nat × Nat) (bA_ tA_ : Nat → Nat) (apx apy act asd amv asl apl asw aor aon atw aup alw : Nat) (fo : Nat → Int64) (c : CD) (cd : Nat) (ee : ED) (zz : ZD) (a0 : Int32) (a1 : Int32) (a2 : Int32) (Pc : CD → Prop) (hM : GTx l yX4_tile wsX4_tile rmT [.ref ob, .int a0, .int a1, .int a2] (dC, dI) (LWd cJ cI cZ cH cB cT out ob om ahl abl asr pb atr tb mt fhl fbl ftr hA_ bA_ tA_ apx apy act asd amv asl apl asw aor aon atw aup alw fo c cd ee zz) (tysL cJ cI cZ cH cB cT) "java/lang/IndexOutOfBoundsException" (fun w_ => ∃ c', Pc c' ∧ w_ = (LWd cJ cI cZ cH cB cT out ob om ahl abl asr pb atr tb mt fhl fbl ftr hA_ bA_ tA_ apx apy act asd amv asl apl asw aor aon atw aup alw fo c' cd ee zz)) (fun A => va_Qi (fun _ (_ : Unit) => False) (fun _ _ => True) A)) : GHi l yL_tile wsL_tile rmH [.ref ob, .int a0, .int a1, .int a2, .ref out] (dC, dI) (LWd cJ cI cZ cH cB cT out ob om ahl abl asr pb atr tb mt fhl fbl ftr hA_ bA_ tA_ apx apy act asd amv asl apl asw aor aon atw aup alw fo c cd ee zz) (tysL cJ cI cZ cH cB cT) (fun r_ w_ => r_ = nI 1 ∧ ∃ c', Pc c' ∧ w_ = (LWd cJ cI cZ cH cB cT out ob om ahl abl asr pb atr tb mt fhl fbl ftr hA_ bA_ tA_ apx apy act asd amv asl apl asw aor aon atw aup alw fo c' cd ee zz)) := by
  intro sz
  refine kOfH (cc := cL_tile) (maxL := 6) (ret := some .int) (hh := [(0, 19, 22, 19), (0, 19, 26, 13)]) (by decide +kernel) rfl (Nat.le_of_ble_eq_true rfl) ?_
  intro p e s m below meth c_ hx hb hr hml hts hown hlocks htab hB ls hl
  obtain ⟨⟨⟨hsz, hP, hK, hD0⟩, hT⟩, hnc⟩ := hB
  subst hsz
  have hD := hD0.self (sz := s.heap.size)
  generalize hAe : va_A (LWd cJ cI cZ cH cB cT out ob om ahl abl asr pb atr tb mt fhl fbl ftr hA_ bA_ tA_ apx apy act asd amv asl apl asw aor aon atw aup alw fo c cd ee zz) s.heap.size = A at hD hT ⊢
  have hA : ∀ q : Nat, s.heap.size ≤ q → A q := fun q h => by rw [← hAe]; exact Or.inr h
  have hS : va_S A s.heap s.heap [] := va_S.rf
  have hl : lv_has ls 6 [(0, .ref ob), (1, .int a0), (2, .int a1), (3, .int a2), (4, .ref out)] := hl
  refine lv_aload hx hb dL_tile_0 (lv_at hl 4 rfl) ?_
  refine lv_iconst (v := (nI 0)) hx hb dL_tile_2 (by decide) ?_
  refine lv_aload_n hx hb dL_tile_3 rfl (lv_at hl 0 rfl) ?_
  refine lv_iload_n hx hb dL_tile_4 rfl (lv_at hl 1 rfl) ?_
  refine lv_iload_n hx hb dL_tile_5 rfl (lv_at hl 2 rfl) ?_
  refine lv_iload_n hx hb dL_tile_6 rfl (lv_at hl 3 rfl) ?_
  refine gXi (ci := 4) (q0 := 1) (As := [.int a0, .int a1, .int a2]) (rest := [.int (nI 0), .ref out]) ⟨hx, hb, hml, hown, hts⟩ hM (cwV 3 hts gL_tile_X4_tile rfl rfl rfl (by decide +kernel) ⟨Nat.le_of_ble_eq_true rfl, Nat.le_of_ble_eq_true rfl⟩) hP hD hA hS hK hT rfl rfl rfl rfl hl.1 (Nat.le_of_ble_eq_true rfl) dL_tile_7 ⟨Nat.le_of_ble_eq_true rfl, Nat.le_of_ble_eq_true rfl⟩ hown [] ⟨0, 19, 22, 19⟩ [⟨0, 19, 26, 13⟩] htab (fun z hz => absurd hz List.not_mem_nil) (by decide) (by decide) (hts (.classLink RL 19 "java/lang/IndexOutOfBoundsException") (by decide +kernel)) (cast_at (hT.2.2.2 _ (List.mem_of_getElem? (i := 1) rfl))) (fun B2 H locs q9 hq hP hD hS => ?_)
  obtain ⟨c1, hc1, rfl⟩ := hq
  refine lv_astore (lv' := [(5, .ref q9), (0, .ref ob), (1, .int a0), (2, .int a1), (3, .int a2), (4, .ref out)]) hx hb dL_tile_22 hl (by decide) rfl (fun ls hl => ?_)
  refine lv_iconst (v := (nI 1)) hx hb dL_tile_24 (by decide) ?_
  exact kGi (w := (LWd cJ cI cZ cH cB cT out ob om ahl abl asr pb atr tb mt fhl fbl ftr hA_ bA_ tA_ apx apy act asd amv asl apl asw aor aon atw aup alw fo c1 cd ee zz)) hx hb hr hlocks ⟨rfl, c1, hc1, rfl⟩ hP hK hD hS dL_tile_25
set_option maxHeartbeats 1000000 in
theorem hT_tile_2 (l : Launch) (dC : Nat → ClassId) (dI : Nat → Nat → Nat) (cJ cI cZ cH cB cT : ClassId) (out ob om ahl abl asr pb atr tb mt : Nat) (fhl fbl ftr : Nat → Option Nat) (hA_ : Nat → Nat × Nat × Nat × Nat × Nat) (bA_ tA_ : Nat → Nat) (apx apy act asd amv asl apl asw aor aon atw aup alw : Nat) (fo : Nat → Int64) (c : CD) (cd : Nat) (ee : ED) (zz : ZD) (a0 : Int32) (a1 : Int32) (a2 : Int32) (Pc : CD → Prop) (hM : GTx l yX4_tile wsX4_tile rmT [.ref ob, .int a0, .int a1, .int a2] (dC, dI) (LWd cJ cI cZ cH cB cT out ob om ahl abl asr pb atr tb mt fhl fbl ftr hA_ bA_ tA_ apx apy act asd amv asl apl asw aor aon atw aup alw fo c cd ee zz) (tysL cJ cI cZ cH cB cT) "java/lang/IllegalStateException" (fun w_ => ∃ c', Pc c' ∧ w_ = (LWd cJ cI cZ cH cB cT out ob om ahl abl asr pb atr tb mt fhl fbl ftr hA_ bA_ tA_ apx apy act asd amv asl apl asw aor aon atw aup alw fo c' cd ee zz)) (fun A => va_Qi (fun _ (_ : Unit) => False) (fun _ _ => True) A)) : GHi l yL_tile wsL_tile rmH [.ref ob, .int a0, .int a1, .int a2, .ref out] (dC, dI) (LWd cJ cI cZ cH cB cT out ob om ahl abl asr pb atr tb mt fhl fbl ftr hA_ bA_ tA_ apx apy act asd amv asl apl asw aor aon atw aup alw fo c cd ee zz) (tysL cJ cI cZ cH cB cT) (fun r_ w_ => r_ = nI 2 ∧ ∃ c', Pc c' ∧ w_ = (LWd cJ cI cZ cH cB cT out ob om ahl abl asr pb atr tb mt fhl fbl ftr hA_ bA_ tA_ apx apy act asd amv asl apl asw aor aon atw aup alw fo c' cd ee zz)) := by
  intro sz
  refine kOfH (cc := cL_tile) (maxL := 6) (ret := some .int) (hh := [(0, 19, 22, 19), (0, 19, 26, 13)]) (by decide +kernel) rfl (Nat.le_of_ble_eq_true rfl) ?_
  intro p e s m below meth c_ hx hb hr hml hts hown hlocks htab hB ls hl
  obtain ⟨⟨⟨hsz, hP, hK, hD0⟩, hT⟩, hnc⟩ := hB
  subst hsz
  have hD := hD0.self (sz := s.heap.size)
  generalize hAe : va_A (LWd cJ cI cZ cH cB cT out ob om ahl abl asr pb atr tb mt fhl fbl ftr hA_ bA_ tA_ apx apy act asd amv asl apl asw aor aon atw aup alw fo c cd ee zz) s.heap.size = A at hD hT ⊢
  have hA : ∀ q : Nat, s.heap.size ≤ q → A q := fun q h => by rw [← hAe]; exact Or.inr h
  have hS : va_S A s.heap s.heap [] := va_S.rf
  have hl : lv_has ls 6 [(0, .ref ob), (1, .int a0), (2, .int a1), (3, .int a2), (4, .ref out)] := hl
  refine lv_aload hx hb dL_tile_0 (lv_at hl 4 rfl) ?_
  refine lv_iconst (v := (nI 0)) hx hb dL_tile_2 (by decide) ?_
  refine lv_aload_n hx hb dL_tile_3 rfl (lv_at hl 0 rfl) ?_
  refine lv_iload_n hx hb dL_tile_4 rfl (lv_at hl 1 rfl) ?_
  refine lv_iload_n hx hb dL_tile_5 rfl (lv_at hl 2 rfl) ?_
  refine lv_iload_n hx hb dL_tile_6 rfl (lv_at hl 3 rfl) ?_
  refine gXi (ci := 4) (q0 := 1) (As := [.int a0, .int a1, .int a2]) (rest := [.int (nI 0), .ref out]) ⟨hx, hb, hml, hown, hts⟩ hM (cwV 3 hts gL_tile_X4_tile rfl rfl rfl (by decide +kernel) ⟨Nat.le_of_ble_eq_true rfl, Nat.le_of_ble_eq_true rfl⟩) hP hD hA hS hK hT rfl rfl rfl rfl hl.1 (Nat.le_of_ble_eq_true rfl) dL_tile_7 ⟨Nat.le_of_ble_eq_true rfl, Nat.le_of_ble_eq_true rfl⟩ hown [⟨0, 19, 22, 19⟩] ⟨0, 19, 26, 13⟩ [] htab (List.forall_mem_cons.mpr ⟨Or.inr ⟨by decide, "java/lang/IndexOutOfBoundsException", hts (.classLink RL 19 "java/lang/IndexOutOfBoundsException") (by decide +kernel), hnc.1⟩, (fun z hz => absurd hz List.not_mem_nil)⟩) (by decide) (by decide) (hts (.classLink RL 13 "java/lang/IllegalStateException") (by decide +kernel)) (cast_at (hT.2.2.2 _ (List.mem_of_getElem? (i := 0) rfl))) (fun B2 H locs q9 hq hP hD hS => ?_)
  obtain ⟨c1, hc1, rfl⟩ := hq
  refine lv_astore (lv' := [(5, .ref q9), (0, .ref ob), (1, .int a0), (2, .int a1), (3, .int a2), (4, .ref out)]) hx hb dL_tile_26 hl (by decide) rfl (fun ls hl => ?_)
  refine lv_iconst (v := (nI 2)) hx hb dL_tile_28 (by decide) ?_
  exact kGi (w := (LWd cJ cI cZ cH cB cT out ob om ahl abl asr pb atr tb mt fhl fbl ftr hA_ bA_ tA_ apx apy act asd amv asl apl asw aor aon atw aup alw fo c1 cd ee zz)) hx hb hr hlocks ⟨rfl, c1, hc1, rfl⟩ hP hK hD hS dL_tile_29
set_option maxHeartbeats 1000000 in
theorem hR_player (l : Launch) (dC : Nat → ClassId) (dI : Nat → Nat → Nat) (cJ cI cZ cH cB cT : ClassId) (out ob om ahl abl asr pb atr tb mt : Nat) (fhl fbl ftr : Nat → Option Nat) (hA_ : Nat → Nat × Nat × Nat × Nat × Nat) (bA_ tA_ : Nat → Nat) (apx apy act asd amv asl apl asw aor aon atw aup alw : Nat) (fo : Nat → Int64) (c : CD) (cd : Nat) (ee : ED) (zz : ZD) (a0 : Int64) (a1 : Int64) (a2 : Int64) (a3 : Int64) (bb : Bool) (Pc : CD → Prop) (hM : GMi l yX4_player wsX4_player rmR [.ref ob, .long a0, .long a1, .long a2, .long a3] (dC, dI) (LWd cJ cI cZ cH cB cT out ob om ahl abl asr pb atr tb mt fhl fbl ftr hA_ bA_ tA_ apx apy act asd amv asl apl asw aor aon atw aup alw fo c cd ee zz) (tysL cJ cI cZ cH cB cT) (fun r_ w_ => r_ = bI bb ∧ ∃ c', Pc c' ∧ w_ = (LWd cJ cI cZ cH cB cT out ob om ahl abl asr pb atr tb mt fhl fbl ftr hA_ bA_ tA_ apx apy act asd amv asl apl asw aor aon atw aup alw fo c' cd ee zz))) : GHi l yL_player wsL_player rmH [.ref ob, .long a0, .long a1, .long a2, .long a3, .ref out] (dC, dI) (LWd cJ cI cZ cH cB cT out ob om ahl abl asr pb atr tb mt fhl fbl ftr hA_ bA_ tA_ apx apy act asd amv asl apl asw aor aon atw aup alw fo c cd ee zz) (tysL cJ cI cZ cH cB cT) (fun r_ w_ => r_ = nI 0 ∧ ∃ c', Pc c' ∧ w_ = (LWd cJ cI cZ cH cB cT out ob om ahl abl asr pb atr tb mt fhl fbl ftr hA_ bA_ tA_ apx apy act asd amv asl apl asw aor aon atw aup alw (vp_updL fo 0 (bL bb)) c' cd ee zz)) := by
  intro sz
  refine kOfH (cc := cL_player) (maxL := 11) (ret := some .int) (hh := [(0, 22, 25, 21)]) (by decide +kernel) rfl (Nat.le_of_ble_eq_true rfl) ?_
  intro p e s m below meth c_ hx hb hr hml hts hown hlocks htab hB ls hl
  obtain ⟨⟨⟨hsz, hP, hK, hD0⟩, hT⟩, hnc⟩ := hB
  subst hsz
  have hD := hD0.self (sz := s.heap.size)
  generalize hAe : va_A (LWd cJ cI cZ cH cB cT out ob om ahl abl asr pb atr tb mt fhl fbl ftr hA_ bA_ tA_ apx apy act asd amv asl apl asw aor aon atw aup alw fo c cd ee zz) s.heap.size = A at hD hT ⊢
  have hA : ∀ q : Nat, s.heap.size ≤ q → A q := fun q h => by rw [← hAe]; exact Or.inr h
  have hS : va_S A s.heap s.heap [] := va_S.rf
  have hl : lv_has ls 11 [(0, .ref ob), (1, .long a0), (3, .long a1), (5, .long a2), (7, .long a3), (9, .ref out)] := hl
  refine lv_aload hx hb dL_player_0 (lv_at hl 5 rfl) ?_
  refine lv_iconst (v := (nI 0)) hx hb dL_player_2 (by decide) ?_
  refine lv_aload_n hx hb dL_player_3 rfl (lv_at hl 0 rfl) ?_
  refine lv_lload_n hx hb dL_player_4 rfl (lv_at hl 1 rfl) ?_
  refine lv_lload_n hx hb dL_player_5 rfl (lv_at hl 2 rfl) ?_
  refine lv_lload hx hb dL_player_6 (lv_at hl 3 rfl) ?_
  refine lv_lload hx hb dL_player_8 (lv_at hl 4 rfl) ?_
  refine gVi (ci := 4) (q0 := 1) (As := [.long a0, .long a1, .long a2, .long a3]) (rest := [.int (nI 0), .ref out]) ⟨hx, hb, hml, hown, hts⟩ hM (cwV 4 hts gL_player_X4_player rfl rfl rfl (by decide +kernel) ⟨Nat.le_of_ble_eq_true rfl, Nat.le_of_ble_eq_true rfl⟩) hP hD hA hS hK rfl rfl rfl rfl hl.1 (Nat.le_of_ble_eq_true rfl) dL_player_10 ⟨Nat.le_of_ble_eq_true rfl, Nat.le_of_ble_eq_true rfl⟩ (fun r B2 H locs hq hP hD hS => ?_)
  obtain ⟨hres, c1, hc1, rfl⟩ := hq
  replace hres := hres.symm
  subst hres
  refine lv_if_eq (tgt := 20) hx hb dL_player_13 (by decide) (fun cz => ?_) (fun cz => ?_)
  · have hbb : bb = false := bI_0 cz
    subst hbb
    refine lv_lconst (v := 0) hx hb dL_player_20 (by decide) ?_
    refine va_last hx hb hK hP hD hS 0 0 rfl rfl (vp_in_nI (show 0 < 1 by omega) (by omega)) dL_player_21 (fun H locs hP hD hS => ?_)
    rw [show (nI 0).toNatClampNeg = 0 from nI_clamp (show 0 < 2 ^ 31 by omega)] at hP hD
    refine lv_goto (tgt := 29) hx hb dL_player_22 (by decide) ?_
    refine lv_iconst (v := (nI 0)) hx hb dL_player_29 (by decide) ?_
    refine W.widen (k := 1) (n := 6) (by decide) (by decide) ?_
    exact kGi (w := (LWd cJ cI cZ cH cB cT out ob om ahl abl asr pb atr tb mt fhl fbl ftr hA_ bA_ tA_ apx apy act asd amv asl apl asw aor aon atw aup alw (vp_updL fo 0 (bL false)) c1 cd ee zz)) hx hb hr hlocks ⟨rfl, c1, hc1, rfl⟩ hP hK hD hS dL_player_30
  · have hbb : bb = true := bI_n cz
    subst hbb
    refine lv_lconst (v := 1) hx hb dL_player_16 (by decide) ?_
    refine lv_goto (tgt := 21) hx hb dL_player_17 (by decide) ?_
    refine va_last hx hb hK hP hD hS 0 0 rfl rfl (vp_in_nI (show 0 < 1 by omega) (by omega)) dL_player_21 (fun H locs hP hD hS => ?_)
    rw [show (nI 0).toNatClampNeg = 0 from nI_clamp (show 0 < 2 ^ 31 by omega)] at hP hD
    refine lv_goto (tgt := 29) hx hb dL_player_22 (by decide) ?_
    refine lv_iconst (v := (nI 0)) hx hb dL_player_29 (by decide) ?_
    refine W.widen (k := 1) (n := 6) (by decide) (by decide) ?_
    exact kGi (w := (LWd cJ cI cZ cH cB cT out ob om ahl abl asr pb atr tb mt fhl fbl ftr hA_ bA_ tA_ apx apy act asd amv asl apl asw aor aon atw aup alw (vp_updL fo 0 (bL true)) c1 cd ee zz)) hx hb hr hlocks ⟨rfl, c1, hc1, rfl⟩ hP hK hD hS dL_player_30
set_option maxHeartbeats 1000000 in
theorem hT_player_1 (l : Launch) (dC : Nat → ClassId) (dI : Nat → Nat → Nat) (cJ cI cZ cH cB cT : ClassId) (out ob om ahl abl asr pb atr tb mt : Nat) (fhl fbl ftr : Nat → Option Nat) (hA_ : Nat → Nat × Nat × Nat × Nat × Nat) (bA_ tA_ : Nat → Nat) (apx apy act asd amv asl apl asw aor aon atw aup alw : Nat) (fo : Nat → Int64) (c : CD) (cd : Nat) (ee : ED) (zz : ZD) (a0 : Int64) (a1 : Int64) (a2 : Int64) (a3 : Int64) (Pc : CD → Prop) (hM : GTx l yX4_player wsX4_player rmT [.ref ob, .long a0, .long a1, .long a2, .long a3] (dC, dI) (LWd cJ cI cZ cH cB cT out ob om ahl abl asr pb atr tb mt fhl fbl ftr hA_ bA_ tA_ apx apy act asd amv asl apl asw aor aon atw aup alw fo c cd ee zz) (tysL cJ cI cZ cH cB cT) "java/lang/IllegalArgumentException" (fun w_ => ∃ c', Pc c' ∧ w_ = (LWd cJ cI cZ cH cB cT out ob om ahl abl asr pb atr tb mt fhl fbl ftr hA_ bA_ tA_ apx apy act asd amv asl apl asw aor aon atw aup alw fo c' cd ee zz)) (fun A => va_Qi (fun _ (_ : Unit) => False) (fun _ _ => True) A)) : GHi l yL_player wsL_player rmH [.ref ob, .long a0, .long a1, .long a2, .long a3, .ref out] (dC, dI) (LWd cJ cI cZ cH cB cT out ob om ahl abl asr pb atr tb mt fhl fbl ftr hA_ bA_ tA_ apx apy act asd amv asl apl asw aor aon atw aup alw fo c cd ee zz) (tysL cJ cI cZ cH cB cT) (fun r_ w_ => r_ = nI 1 ∧ ∃ c', Pc c' ∧ w_ = (LWd cJ cI cZ cH cB cT out ob om ahl abl asr pb atr tb mt fhl fbl ftr hA_ bA_ tA_ apx apy act asd amv asl apl asw aor aon atw aup alw fo c' cd ee zz)) := by
  intro sz
  refine kOfH (cc := cL_player) (maxL := 11) (ret := some .int) (hh := [(0, 22, 25, 21)]) (by decide +kernel) rfl (Nat.le_of_ble_eq_true rfl) ?_
  intro p e s m below meth c_ hx hb hr hml hts hown hlocks htab hB ls hl
  obtain ⟨⟨⟨hsz, hP, hK, hD0⟩, hT⟩, hnc⟩ := hB
  subst hsz
  have hD := hD0.self (sz := s.heap.size)
  generalize hAe : va_A (LWd cJ cI cZ cH cB cT out ob om ahl abl asr pb atr tb mt fhl fbl ftr hA_ bA_ tA_ apx apy act asd amv asl apl asw aor aon atw aup alw fo c cd ee zz) s.heap.size = A at hD hT ⊢
  have hA : ∀ q : Nat, s.heap.size ≤ q → A q := fun q h => by rw [← hAe]; exact Or.inr h
  have hS : va_S A s.heap s.heap [] := va_S.rf
  have hl : lv_has ls 11 [(0, .ref ob), (1, .long a0), (3, .long a1), (5, .long a2), (7, .long a3), (9, .ref out)] := hl
  refine lv_aload hx hb dL_player_0 (lv_at hl 5 rfl) ?_
  refine lv_iconst (v := (nI 0)) hx hb dL_player_2 (by decide) ?_
  refine lv_aload_n hx hb dL_player_3 rfl (lv_at hl 0 rfl) ?_
  refine lv_lload_n hx hb dL_player_4 rfl (lv_at hl 1 rfl) ?_
  refine lv_lload_n hx hb dL_player_5 rfl (lv_at hl 2 rfl) ?_
  refine lv_lload hx hb dL_player_6 (lv_at hl 3 rfl) ?_
  refine lv_lload hx hb dL_player_8 (lv_at hl 4 rfl) ?_
  refine gXi (ci := 4) (q0 := 1) (As := [.long a0, .long a1, .long a2, .long a3]) (rest := [.int (nI 0), .ref out]) ⟨hx, hb, hml, hown, hts⟩ hM (cwV 4 hts gL_player_X4_player rfl rfl rfl (by decide +kernel) ⟨Nat.le_of_ble_eq_true rfl, Nat.le_of_ble_eq_true rfl⟩) hP hD hA hS hK hT rfl rfl rfl rfl hl.1 (Nat.le_of_ble_eq_true rfl) dL_player_10 ⟨Nat.le_of_ble_eq_true rfl, Nat.le_of_ble_eq_true rfl⟩ hown [] ⟨0, 22, 25, 21⟩ [] htab (fun z hz => absurd hz List.not_mem_nil) (by decide) (by decide) (hts (.classLink RL 21 "java/lang/IllegalArgumentException") (by decide +kernel)) (cast_at (hT.2.2.2 _ (List.mem_of_getElem? (i := 2) rfl))) (fun B2 H locs q9 hq hP hD hS => ?_)
  obtain ⟨c1, hc1, rfl⟩ := hq
  refine lv_astore (lv' := [(10, .ref q9), (0, .ref ob), (1, .long a0), (3, .long a1), (5, .long a2), (7, .long a3), (9, .ref out)]) hx hb dL_player_25 hl (by decide) rfl (fun ls hl => ?_)
  refine lv_iconst (v := (nI 1)) hx hb dL_player_27 (by decide) ?_
  exact kGi (w := (LWd cJ cI cZ cH cB cT out ob om ahl abl asr pb atr tb mt fhl fbl ftr hA_ bA_ tA_ apx apy act asd amv asl apl asw aor aon atw aup alw fo c1 cd ee zz)) hx hb hr hlocks ⟨rfl, c1, hc1, rfl⟩ hP hK hD hS dL_player_28
set_option maxHeartbeats 1000000 in
theorem hR_step (l : Launch) (dC : Nat → ClassId) (dI : Nat → Nat → Nat) (cJ cI cZ cH cB cT : ClassId) (out ob om ahl abl asr pb atr tb mt : Nat) (fhl fbl ftr : Nat → Option Nat) (hA_ : Nat → Nat × Nat × Nat × Nat × Nat) (bA_ tA_ : Nat → Nat) (apx apy act asd amv asl apl asw aor aon atw aup alw : Nat) (fo : Nat → Int64) (c : CD) (cd : Nat) (ee : ED) (zz : ZD) (a0 : Int64) (a1 : Int64) (a2 : Int32) (res : Int32) (Pc : CD → Prop) (hM : GMi l yX4_step wsX4_step rmR [.ref ob, .long a0, .long a1, .int a2] (dC, dI) (LWd cJ cI cZ cH cB cT out ob om ahl abl asr pb atr tb mt fhl fbl ftr hA_ bA_ tA_ apx apy act asd amv asl apl asw aor aon atw aup alw fo c cd ee zz) (tysL cJ cI cZ cH cB cT) (fun r_ w_ => r_ = res ∧ ∃ c', Pc c' ∧ w_ = (LWd cJ cI cZ cH cB cT out ob om ahl abl asr pb atr tb mt fhl fbl ftr hA_ bA_ tA_ apx apy act asd amv asl apl asw aor aon atw aup alw fo c' cd ee zz))) : GHi l yL_step wsL_step rmH [.ref ob, .long a0, .long a1, .int a2, .ref out] (dC, dI) (LWd cJ cI cZ cH cB cT out ob om ahl abl asr pb atr tb mt fhl fbl ftr hA_ bA_ tA_ apx apy act asd amv asl apl asw aor aon atw aup alw fo c cd ee zz) (tysL cJ cI cZ cH cB cT) (fun r_ w_ => r_ = nI 0 ∧ ∃ c', Pc c' ∧ w_ = (LWd cJ cI cZ cH cB cT out ob om ahl abl asr pb atr tb mt fhl fbl ftr hA_ bA_ tA_ apx apy act asd amv asl apl asw aor aon atw aup alw (vp_updL fo 0 res.toInt64) c' cd ee zz)) := by
  intro sz
  refine kOfH (cc := cL_step) (maxL := 8) (ret := some .int) (hh := [(0, 13, 16, 21)]) (by decide +kernel) rfl (Nat.le_of_ble_eq_true rfl) ?_
  intro p e s m below meth c_ hx hb hr hml hts hown hlocks htab hB ls hl
  obtain ⟨⟨⟨hsz, hP, hK, hD0⟩, hT⟩, hnc⟩ := hB
  subst hsz
  have hD := hD0.self (sz := s.heap.size)
  generalize hAe : va_A (LWd cJ cI cZ cH cB cT out ob om ahl abl asr pb atr tb mt fhl fbl ftr hA_ bA_ tA_ apx apy act asd amv asl apl asw aor aon atw aup alw fo c cd ee zz) s.heap.size = A at hD hT ⊢
  have hA : ∀ q : Nat, s.heap.size ≤ q → A q := fun q h => by rw [← hAe]; exact Or.inr h
  have hS : va_S A s.heap s.heap [] := va_S.rf
  have hl : lv_has ls 8 [(0, .ref ob), (1, .long a0), (3, .long a1), (5, .int a2), (6, .ref out)] := hl
  refine lv_aload hx hb dL_step_0 (lv_at hl 4 rfl) ?_
  refine lv_iconst (v := (nI 0)) hx hb dL_step_2 (by decide) ?_
  refine lv_aload_n hx hb dL_step_3 rfl (lv_at hl 0 rfl) ?_
  refine lv_lload_n hx hb dL_step_4 rfl (lv_at hl 1 rfl) ?_
  refine lv_lload_n hx hb dL_step_5 rfl (lv_at hl 2 rfl) ?_
  refine lv_iload hx hb dL_step_6 (lv_at hl 3 rfl) ?_
  refine gVi (ci := 4) (q0 := 1) (As := [.long a0, .long a1, .int a2]) (rest := [.int (nI 0), .ref out]) ⟨hx, hb, hml, hown, hts⟩ hM (cwV 3 hts gL_step_X4_step rfl rfl rfl (by decide +kernel) ⟨Nat.le_of_ble_eq_true rfl, Nat.le_of_ble_eq_true rfl⟩) hP hD hA hS hK rfl rfl rfl rfl hl.1 (Nat.le_of_ble_eq_true rfl) dL_step_8 ⟨Nat.le_of_ble_eq_true rfl, Nat.le_of_ble_eq_true rfl⟩ (fun r B2 H locs hq hP hD hS => ?_)
  obtain ⟨hres, c1, hc1, rfl⟩ := hq
  replace hres := hres.symm
  subst hres
  refine lv_i2l (v := res.toInt64) hx hb dL_step_11 rfl ?_
  refine va_last hx hb hK hP hD hS 0 0 rfl rfl (vp_in_nI (show 0 < 1 by omega) (by omega)) dL_step_12 (fun H locs hP hD hS => ?_)
  rw [show (nI 0).toNatClampNeg = 0 from nI_clamp (show 0 < 2 ^ 31 by omega)] at hP hD
  refine lv_goto (tgt := 20) hx hb dL_step_13 (by decide) ?_
  refine lv_iconst (v := (nI 0)) hx hb dL_step_20 (by decide) ?_
  refine W.widen (k := 1) (n := 6) (by decide) (by decide) ?_
  exact kGi (w := (LWd cJ cI cZ cH cB cT out ob om ahl abl asr pb atr tb mt fhl fbl ftr hA_ bA_ tA_ apx apy act asd amv asl apl asw aor aon atw aup alw (vp_updL fo 0 res.toInt64) c1 cd ee zz)) hx hb hr hlocks ⟨rfl, c1, hc1, rfl⟩ hP hK hD hS dL_step_21
set_option maxHeartbeats 1000000 in
theorem hT_step_1 (l : Launch) (dC : Nat → ClassId) (dI : Nat → Nat → Nat) (cJ cI cZ cH cB cT : ClassId) (out ob om ahl abl asr pb atr tb mt : Nat) (fhl fbl ftr : Nat → Option Nat) (hA_ : Nat → Nat × Nat × Nat × Nat × Nat) (bA_ tA_ : Nat → Nat) (apx apy act asd amv asl apl asw aor aon atw aup alw : Nat) (fo : Nat → Int64) (c : CD) (cd : Nat) (ee : ED) (zz : ZD) (a0 : Int64) (a1 : Int64) (a2 : Int32) (Pc : CD → Prop) (hM : GTx l yX4_step wsX4_step rmT [.ref ob, .long a0, .long a1, .int a2] (dC, dI) (LWd cJ cI cZ cH cB cT out ob om ahl abl asr pb atr tb mt fhl fbl ftr hA_ bA_ tA_ apx apy act asd amv asl apl asw aor aon atw aup alw fo c cd ee zz) (tysL cJ cI cZ cH cB cT) "java/lang/IllegalArgumentException" (fun w_ => ∃ c', Pc c' ∧ w_ = (LWd cJ cI cZ cH cB cT out ob om ahl abl asr pb atr tb mt fhl fbl ftr hA_ bA_ tA_ apx apy act asd amv asl apl asw aor aon atw aup alw fo c' cd ee zz)) (fun A => va_Qi (fun _ (_ : Unit) => False) (fun _ _ => True) A)) : GHi l yL_step wsL_step rmH [.ref ob, .long a0, .long a1, .int a2, .ref out] (dC, dI) (LWd cJ cI cZ cH cB cT out ob om ahl abl asr pb atr tb mt fhl fbl ftr hA_ bA_ tA_ apx apy act asd amv asl apl asw aor aon atw aup alw fo c cd ee zz) (tysL cJ cI cZ cH cB cT) (fun r_ w_ => r_ = nI 1 ∧ ∃ c', Pc c' ∧ w_ = (LWd cJ cI cZ cH cB cT out ob om ahl abl asr pb atr tb mt fhl fbl ftr hA_ bA_ tA_ apx apy act asd amv asl apl asw aor aon atw aup alw fo c' cd ee zz)) := by
  intro sz
  refine kOfH (cc := cL_step) (maxL := 8) (ret := some .int) (hh := [(0, 13, 16, 21)]) (by decide +kernel) rfl (Nat.le_of_ble_eq_true rfl) ?_
  intro p e s m below meth c_ hx hb hr hml hts hown hlocks htab hB ls hl
  obtain ⟨⟨⟨hsz, hP, hK, hD0⟩, hT⟩, hnc⟩ := hB
  subst hsz
  have hD := hD0.self (sz := s.heap.size)
  generalize hAe : va_A (LWd cJ cI cZ cH cB cT out ob om ahl abl asr pb atr tb mt fhl fbl ftr hA_ bA_ tA_ apx apy act asd amv asl apl asw aor aon atw aup alw fo c cd ee zz) s.heap.size = A at hD hT ⊢
  have hA : ∀ q : Nat, s.heap.size ≤ q → A q := fun q h => by rw [← hAe]; exact Or.inr h
  have hS : va_S A s.heap s.heap [] := va_S.rf
  have hl : lv_has ls 8 [(0, .ref ob), (1, .long a0), (3, .long a1), (5, .int a2), (6, .ref out)] := hl
  refine lv_aload hx hb dL_step_0 (lv_at hl 4 rfl) ?_
  refine lv_iconst (v := (nI 0)) hx hb dL_step_2 (by decide) ?_
  refine lv_aload_n hx hb dL_step_3 rfl (lv_at hl 0 rfl) ?_
  refine lv_lload_n hx hb dL_step_4 rfl (lv_at hl 1 rfl) ?_
  refine lv_lload_n hx hb dL_step_5 rfl (lv_at hl 2 rfl) ?_
  refine lv_iload hx hb dL_step_6 (lv_at hl 3 rfl) ?_
  refine gXi (ci := 4) (q0 := 1) (As := [.long a0, .long a1, .int a2]) (rest := [.int (nI 0), .ref out]) ⟨hx, hb, hml, hown, hts⟩ hM (cwV 3 hts gL_step_X4_step rfl rfl rfl (by decide +kernel) ⟨Nat.le_of_ble_eq_true rfl, Nat.le_of_ble_eq_true rfl⟩) hP hD hA hS hK hT rfl rfl rfl rfl hl.1 (Nat.le_of_ble_eq_true rfl) dL_step_8 ⟨Nat.le_of_ble_eq_true rfl, Nat.le_of_ble_eq_true rfl⟩ hown [] ⟨0, 13, 16, 21⟩ [] htab (fun z hz => absurd hz List.not_mem_nil) (by decide) (by decide) (hts (.classLink RL 21 "java/lang/IllegalArgumentException") (by decide +kernel)) (cast_at (hT.2.2.2 _ (List.mem_of_getElem? (i := 2) rfl))) (fun B2 H locs q9 hq hP hD hS => ?_)
  obtain ⟨c1, hc1, rfl⟩ := hq
  refine lv_astore (lv' := [(7, .ref q9), (0, .ref ob), (1, .long a0), (3, .long a1), (5, .int a2), (6, .ref out)]) hx hb dL_step_16 hl (by decide) rfl (fun ls hl => ?_)
  refine lv_iconst (v := (nI 1)) hx hb dL_step_18 (by decide) ?_
  exact kGi (w := (LWd cJ cI cZ cH cB cT out ob om ahl abl asr pb atr tb mt fhl fbl ftr hA_ bA_ tA_ apx apy act asd amv asl apl asw aor aon atw aup alw fo c1 cd ee zz)) hx hb hr hlocks ⟨rfl, c1, hc1, rfl⟩ hP hK hD hS dL_step_19
set_option maxHeartbeats 1000000 in
theorem hR_at (l : Launch) (dC : Nat → ClassId) (dI : Nat → Nat → Nat) (cJ cI cZ cH cB cT : ClassId) (out ob om ahl abl asr pb atr tb mt : Nat) (fhl fbl ftr : Nat → Option Nat) (hA_ : Nat → Nat × Nat × Nat × Nat × Nat) (bA_ tA_ : Nat → Nat) (apx apy act asd amv asl apl asw aor aon atw aup alw : Nat) (fo : Nat → Int64) (c : CD) (cd : Nat) (ee : ED) (zz : ZD) (a0 : Int32) (res : Int64) (Pc : CD → Prop) (hM : GMl l yX4_at wsX4_at rmR [.ref ob, .int a0] (dC, dI) (LWd cJ cI cZ cH cB cT out ob om ahl abl asr pb atr tb mt fhl fbl ftr hA_ bA_ tA_ apx apy act asd amv asl apl asw aor aon atw aup alw fo c cd ee zz) (tysL cJ cI cZ cH cB cT) (fun r_ w_ => r_ = res ∧ ∃ c', Pc c' ∧ w_ = (LWd cJ cI cZ cH cB cT out ob om ahl abl asr pb atr tb mt fhl fbl ftr hA_ bA_ tA_ apx apy act asd amv asl apl asw aor aon atw aup alw fo c' cd ee zz))) : GHi l yL_at wsL_at rmH [.ref ob, .int a0, .ref out] (dC, dI) (LWd cJ cI cZ cH cB cT out ob om ahl abl asr pb atr tb mt fhl fbl ftr hA_ bA_ tA_ apx apy act asd amv asl apl asw aor aon atw aup alw fo c cd ee zz) (tysL cJ cI cZ cH cB cT) (fun r_ w_ => r_ = nI 0 ∧ ∃ c', Pc c' ∧ w_ = (LWd cJ cI cZ cH cB cT out ob om ahl abl asr pb atr tb mt fhl fbl ftr hA_ bA_ tA_ apx apy act asd amv asl apl asw aor aon atw aup alw (vp_updL fo 0 res) c' cd ee zz)) := by
  intro sz
  refine kOfH (cc := cL_at) (maxL := 4) (ret := some .int) (hh := [(0, 8, 11, 19)]) (by decide +kernel) rfl (Nat.le_of_ble_eq_true rfl) ?_
  intro p e s m below meth c_ hx hb hr hml hts hown hlocks htab hB ls hl
  obtain ⟨⟨⟨hsz, hP, hK, hD0⟩, hT⟩, hnc⟩ := hB
  subst hsz
  have hD := hD0.self (sz := s.heap.size)
  generalize hAe : va_A (LWd cJ cI cZ cH cB cT out ob om ahl abl asr pb atr tb mt fhl fbl ftr hA_ bA_ tA_ apx apy act asd amv asl apl asw aor aon atw aup alw fo c cd ee zz) s.heap.size = A at hD hT ⊢
  have hA : ∀ q : Nat, s.heap.size ≤ q → A q := fun q h => by rw [← hAe]; exact Or.inr h
  have hS : va_S A s.heap s.heap [] := va_S.rf
  have hl : lv_has ls 4 [(0, .ref ob), (1, .int a0), (2, .ref out)] := hl
  refine lv_aload_n hx hb dL_at_0 rfl (lv_at hl 2 rfl) ?_
  refine lv_iconst (v := (nI 0)) hx hb dL_at_1 (by decide) ?_
  refine lv_aload_n hx hb dL_at_2 rfl (lv_at hl 0 rfl) ?_
  refine lv_iload_n hx hb dL_at_3 rfl (lv_at hl 1 rfl) ?_
  refine gVl (ci := 4) (q0 := 1) (As := [.int a0]) (rest := [.int (nI 0), .ref out]) ⟨hx, hb, hml, hown, hts⟩ hM (cwV 1 hts gL_at_X4_at rfl rfl rfl (by decide +kernel) ⟨Nat.le_of_ble_eq_true rfl, Nat.le_of_ble_eq_true rfl⟩) hP hD hA hS hK rfl rfl rfl rfl hl.1 (Nat.le_of_ble_eq_true rfl) dL_at_4 ⟨Nat.le_of_ble_eq_true rfl, Nat.le_of_ble_eq_true rfl⟩ (fun r B2 H locs hq hP hD hS => ?_)
  obtain ⟨hres, c1, hc1, rfl⟩ := hq
  replace hres := hres.symm
  subst hres
  refine va_last hx hb hK hP hD hS 0 0 rfl rfl (vp_in_nI (show 0 < 1 by omega) (by omega)) dL_at_7 (fun H locs hP hD hS => ?_)
  rw [show (nI 0).toNatClampNeg = 0 from nI_clamp (show 0 < 2 ^ 31 by omega)] at hP hD
  refine lv_goto (tgt := 14) hx hb dL_at_8 (by decide) ?_
  refine lv_iconst (v := (nI 0)) hx hb dL_at_14 (by decide) ?_
  refine W.widen (k := 1) (n := 6) (by decide) (by decide) ?_
  exact kGi (w := (LWd cJ cI cZ cH cB cT out ob om ahl abl asr pb atr tb mt fhl fbl ftr hA_ bA_ tA_ apx apy act asd amv asl apl asw aor aon atw aup alw (vp_updL fo 0 res) c1 cd ee zz)) hx hb hr hlocks ⟨rfl, c1, hc1, rfl⟩ hP hK hD hS dL_at_15
set_option maxHeartbeats 1000000 in
theorem hT_at_1 (l : Launch) (dC : Nat → ClassId) (dI : Nat → Nat → Nat) (cJ cI cZ cH cB cT : ClassId) (out ob om ahl abl asr pb atr tb mt : Nat) (fhl fbl ftr : Nat → Option Nat) (hA_ : Nat → Nat × Nat × Nat × Nat × Nat) (bA_ tA_ : Nat → Nat) (apx apy act asd amv asl apl asw aor aon atw aup alw : Nat) (fo : Nat → Int64) (c : CD) (cd : Nat) (ee : ED) (zz : ZD) (a0 : Int32) (Pc : CD → Prop) (hM : GTx l yX4_at wsX4_at rmT [.ref ob, .int a0] (dC, dI) (LWd cJ cI cZ cH cB cT out ob om ahl abl asr pb atr tb mt fhl fbl ftr hA_ bA_ tA_ apx apy act asd amv asl apl asw aor aon atw aup alw fo c cd ee zz) (tysL cJ cI cZ cH cB cT) "java/lang/IndexOutOfBoundsException" (fun w_ => ∃ c', Pc c' ∧ w_ = (LWd cJ cI cZ cH cB cT out ob om ahl abl asr pb atr tb mt fhl fbl ftr hA_ bA_ tA_ apx apy act asd amv asl apl asw aor aon atw aup alw fo c' cd ee zz)) (fun A => va_Ql (fun _ (_ : Unit) => False) (fun _ _ => True) A)) : GHi l yL_at wsL_at rmH [.ref ob, .int a0, .ref out] (dC, dI) (LWd cJ cI cZ cH cB cT out ob om ahl abl asr pb atr tb mt fhl fbl ftr hA_ bA_ tA_ apx apy act asd amv asl apl asw aor aon atw aup alw fo c cd ee zz) (tysL cJ cI cZ cH cB cT) (fun r_ w_ => r_ = nI 1 ∧ ∃ c', Pc c' ∧ w_ = (LWd cJ cI cZ cH cB cT out ob om ahl abl asr pb atr tb mt fhl fbl ftr hA_ bA_ tA_ apx apy act asd amv asl apl asw aor aon atw aup alw fo c' cd ee zz)) := by
  intro sz
  refine kOfH (cc := cL_at) (maxL := 4) (ret := some .int) (hh := [(0, 8, 11, 19)]) (by decide +kernel) rfl (Nat.le_of_ble_eq_true rfl) ?_
  intro p e s m below meth c_ hx hb hr hml hts hown hlocks htab hB ls hl
  obtain ⟨⟨⟨hsz, hP, hK, hD0⟩, hT⟩, hnc⟩ := hB
  subst hsz
  have hD := hD0.self (sz := s.heap.size)
  generalize hAe : va_A (LWd cJ cI cZ cH cB cT out ob om ahl abl asr pb atr tb mt fhl fbl ftr hA_ bA_ tA_ apx apy act asd amv asl apl asw aor aon atw aup alw fo c cd ee zz) s.heap.size = A at hD hT ⊢
  have hA : ∀ q : Nat, s.heap.size ≤ q → A q := fun q h => by rw [← hAe]; exact Or.inr h
  have hS : va_S A s.heap s.heap [] := va_S.rf
  have hl : lv_has ls 4 [(0, .ref ob), (1, .int a0), (2, .ref out)] := hl
  refine lv_aload_n hx hb dL_at_0 rfl (lv_at hl 2 rfl) ?_
  refine lv_iconst (v := (nI 0)) hx hb dL_at_1 (by decide) ?_
  refine lv_aload_n hx hb dL_at_2 rfl (lv_at hl 0 rfl) ?_
  refine lv_iload_n hx hb dL_at_3 rfl (lv_at hl 1 rfl) ?_
  refine gXl (ci := 4) (q0 := 1) (As := [.int a0]) (rest := [.int (nI 0), .ref out]) ⟨hx, hb, hml, hown, hts⟩ hM (cwV 1 hts gL_at_X4_at rfl rfl rfl (by decide +kernel) ⟨Nat.le_of_ble_eq_true rfl, Nat.le_of_ble_eq_true rfl⟩) hP hD hA hS hK hT rfl rfl rfl rfl hl.1 (Nat.le_of_ble_eq_true rfl) dL_at_4 ⟨Nat.le_of_ble_eq_true rfl, Nat.le_of_ble_eq_true rfl⟩ hown [] ⟨0, 8, 11, 19⟩ [] htab (fun z hz => absurd hz List.not_mem_nil) (by decide) (by decide) (hts (.classLink RL 19 "java/lang/IndexOutOfBoundsException") (by decide +kernel)) (cast_at (hT.2.2.2 _ (List.mem_of_getElem? (i := 1) rfl))) (fun B2 H locs q9 hq hP hD hS => ?_)
  obtain ⟨c1, hc1, rfl⟩ := hq
  refine lv_astore_n (lv' := [(3, .ref q9), (0, .ref ob), (1, .int a0), (2, .ref out)]) hx hb dL_at_11 rfl hl (by decide) rfl (fun ls hl => ?_)
  refine lv_iconst (v := (nI 1)) hx hb dL_at_12 (by decide) ?_
  exact kGi (w := (LWd cJ cI cZ cH cB cT out ob om ahl abl asr pb atr tb mt fhl fbl ftr hA_ bA_ tA_ apx apy act asd amv asl apl asw aor aon atw aup alw fo c1 cd ee zz)) hx hb hr hlocks ⟨rfl, c1, hc1, rfl⟩ hP hK hD hS dL_at_13
set_option maxHeartbeats 1000000 in
theorem hR_sweep (l : Launch) (dC : Nat → ClassId) (dI : Nat → Nat → Nat) (cJ cI cZ cH cB cT : ClassId) (out ob om ahl abl asr pb atr tb mt : Nat) (fhl fbl ftr : Nat → Option Nat) (hA_ : Nat → Nat × Nat × Nat × Nat × Nat) (bA_ tA_ : Nat → Nat) (apx apy act asd amv asl apl asw aor aon atw aup alw : Nat) (fo : Nat → Int64) (c : CD) (cd : Nat) (ee : ED) (zz : ZD) (a0 : Int32) (a1 : Int32) (res : Int64) (Pc : CD → Prop) (hM : GMl l yX4_sweep wsX4_sweep rmR [.ref ob, .int a0, .int a1] (dC, dI) (LWd cJ cI cZ cH cB cT out ob om ahl abl asr pb atr tb mt fhl fbl ftr hA_ bA_ tA_ apx apy act asd amv asl apl asw aor aon atw aup alw fo c cd ee zz) (tysL cJ cI cZ cH cB cT) (fun r_ w_ => r_ = res ∧ ∃ c', Pc c' ∧ w_ = (LWd cJ cI cZ cH cB cT out ob om ahl abl asr pb atr tb mt fhl fbl ftr hA_ bA_ tA_ apx apy act asd amv asl apl asw aor aon atw aup alw fo c' cd ee zz))) : GHi l yL_sweep wsL_sweep rmH [.ref ob, .int a0, .int a1, .ref out] (dC, dI) (LWd cJ cI cZ cH cB cT out ob om ahl abl asr pb atr tb mt fhl fbl ftr hA_ bA_ tA_ apx apy act asd amv asl apl asw aor aon atw aup alw fo c cd ee zz) (tysL cJ cI cZ cH cB cT) (fun r_ w_ => r_ = nI 0 ∧ ∃ c', Pc c' ∧ w_ = (LWd cJ cI cZ cH cB cT out ob om ahl abl asr pb atr tb mt fhl fbl ftr hA_ bA_ tA_ apx apy act asd amv asl apl asw aor aon atw aup alw (vp_updL fo 0 res) c' cd ee zz)) := by
  intro sz
  refine kOfH (cc := cL_sweep) (maxL := 5) (ret := some .int) (hh := [(0, 9, 12, 19)]) (by decide +kernel) rfl (Nat.le_of_ble_eq_true rfl) ?_
  intro p e s m below meth c_ hx hb hr hml hts hown hlocks htab hB ls hl
  obtain ⟨⟨⟨hsz, hP, hK, hD0⟩, hT⟩, hnc⟩ := hB
  subst hsz
  have hD := hD0.self (sz := s.heap.size)
  generalize hAe : va_A (LWd cJ cI cZ cH cB cT out ob om ahl abl asr pb atr tb mt fhl fbl ftr hA_ bA_ tA_ apx apy act asd amv asl apl asw aor aon atw aup alw fo c cd ee zz) s.heap.size = A at hD hT ⊢
  have hA : ∀ q : Nat, s.heap.size ≤ q → A q := fun q h => by rw [← hAe]; exact Or.inr h
  have hS : va_S A s.heap s.heap [] := va_S.rf
  have hl : lv_has ls 5 [(0, .ref ob), (1, .int a0), (2, .int a1), (3, .ref out)] := hl
  refine lv_aload_n hx hb dL_sweep_0 rfl (lv_at hl 3 rfl) ?_
  refine lv_iconst (v := (nI 0)) hx hb dL_sweep_1 (by decide) ?_
  refine lv_aload_n hx hb dL_sweep_2 rfl (lv_at hl 0 rfl) ?_
  refine lv_iload_n hx hb dL_sweep_3 rfl (lv_at hl 1 rfl) ?_
  refine lv_iload_n hx hb dL_sweep_4 rfl (lv_at hl 2 rfl) ?_
  refine gVl (ci := 4) (q0 := 1) (As := [.int a0, .int a1]) (rest := [.int (nI 0), .ref out]) ⟨hx, hb, hml, hown, hts⟩ hM (cwV 2 hts gL_sweep_X4_sweep rfl rfl rfl (by decide +kernel) ⟨Nat.le_of_ble_eq_true rfl, Nat.le_of_ble_eq_true rfl⟩) hP hD hA hS hK rfl rfl rfl rfl hl.1 (Nat.le_of_ble_eq_true rfl) dL_sweep_5 ⟨Nat.le_of_ble_eq_true rfl, Nat.le_of_ble_eq_true rfl⟩ (fun r B2 H locs hq hP hD hS => ?_)
  obtain ⟨hres, c1, hc1, rfl⟩ := hq
  replace hres := hres.symm
  subst hres
  refine va_last hx hb hK hP hD hS 0 0 rfl rfl (vp_in_nI (show 0 < 1 by omega) (by omega)) dL_sweep_8 (fun H locs hP hD hS => ?_)
  rw [show (nI 0).toNatClampNeg = 0 from nI_clamp (show 0 < 2 ^ 31 by omega)] at hP hD
  refine lv_goto (tgt := 16) hx hb dL_sweep_9 (by decide) ?_
  refine lv_iconst (v := (nI 0)) hx hb dL_sweep_16 (by decide) ?_
  refine W.widen (k := 1) (n := 6) (by decide) (by decide) ?_
  exact kGi (w := (LWd cJ cI cZ cH cB cT out ob om ahl abl asr pb atr tb mt fhl fbl ftr hA_ bA_ tA_ apx apy act asd amv asl apl asw aor aon atw aup alw (vp_updL fo 0 res) c1 cd ee zz)) hx hb hr hlocks ⟨rfl, c1, hc1, rfl⟩ hP hK hD hS dL_sweep_17
set_option maxHeartbeats 1000000 in
theorem hT_sweep_1 (l : Launch) (dC : Nat → ClassId) (dI : Nat → Nat → Nat) (cJ cI cZ cH cB cT : ClassId) (out ob om ahl abl asr pb atr tb mt : Nat) (fhl fbl ftr : Nat → Option Nat) (hA_ : Nat → Nat × Nat × Nat × Nat × Nat) (bA_ tA_ : Nat → Nat) (apx apy act asd amv asl apl asw aor aon atw aup alw : Nat) (fo : Nat → Int64) (c : CD) (cd : Nat) (ee : ED) (zz : ZD) (a0 : Int32) (a1 : Int32) (Pc : CD → Prop) (hM : GTx l yX4_sweep wsX4_sweep rmT [.ref ob, .int a0, .int a1] (dC, dI) (LWd cJ cI cZ cH cB cT out ob om ahl abl asr pb atr tb mt fhl fbl ftr hA_ bA_ tA_ apx apy act asd amv asl apl asw aor aon atw aup alw fo c cd ee zz) (tysL cJ cI cZ cH cB cT) "java/lang/IndexOutOfBoundsException" (fun w_ => ∃ c', Pc c' ∧ w_ = (LWd cJ cI cZ cH cB cT out ob om ahl abl asr pb atr tb mt fhl fbl ftr hA_ bA_ tA_ apx apy act asd amv asl apl asw aor aon atw aup alw fo c' cd ee zz)) (fun A => va_Ql (fun _ (_ : Unit) => False) (fun _ _ => True) A)) : GHi l yL_sweep wsL_sweep rmH [.ref ob, .int a0, .int a1, .ref out] (dC, dI) (LWd cJ cI cZ cH cB cT out ob om ahl abl asr pb atr tb mt fhl fbl ftr hA_ bA_ tA_ apx apy act asd amv asl apl asw aor aon atw aup alw fo c cd ee zz) (tysL cJ cI cZ cH cB cT) (fun r_ w_ => r_ = nI 1 ∧ ∃ c', Pc c' ∧ w_ = (LWd cJ cI cZ cH cB cT out ob om ahl abl asr pb atr tb mt fhl fbl ftr hA_ bA_ tA_ apx apy act asd amv asl apl asw aor aon atw aup alw fo c' cd ee zz)) := by
  intro sz
  refine kOfH (cc := cL_sweep) (maxL := 5) (ret := some .int) (hh := [(0, 9, 12, 19)]) (by decide +kernel) rfl (Nat.le_of_ble_eq_true rfl) ?_
  intro p e s m below meth c_ hx hb hr hml hts hown hlocks htab hB ls hl
  obtain ⟨⟨⟨hsz, hP, hK, hD0⟩, hT⟩, hnc⟩ := hB
  subst hsz
  have hD := hD0.self (sz := s.heap.size)
  generalize hAe : va_A (LWd cJ cI cZ cH cB cT out ob om ahl abl asr pb atr tb mt fhl fbl ftr hA_ bA_ tA_ apx apy act asd amv asl apl asw aor aon atw aup alw fo c cd ee zz) s.heap.size = A at hD hT ⊢
  have hA : ∀ q : Nat, s.heap.size ≤ q → A q := fun q h => by rw [← hAe]; exact Or.inr h
  have hS : va_S A s.heap s.heap [] := va_S.rf
  have hl : lv_has ls 5 [(0, .ref ob), (1, .int a0), (2, .int a1), (3, .ref out)] := hl
  refine lv_aload_n hx hb dL_sweep_0 rfl (lv_at hl 3 rfl) ?_
  refine lv_iconst (v := (nI 0)) hx hb dL_sweep_1 (by decide) ?_
  refine lv_aload_n hx hb dL_sweep_2 rfl (lv_at hl 0 rfl) ?_
  refine lv_iload_n hx hb dL_sweep_3 rfl (lv_at hl 1 rfl) ?_
  refine lv_iload_n hx hb dL_sweep_4 rfl (lv_at hl 2 rfl) ?_
  refine gXl (ci := 4) (q0 := 1) (As := [.int a0, .int a1]) (rest := [.int (nI 0), .ref out]) ⟨hx, hb, hml, hown, hts⟩ hM (cwV 2 hts gL_sweep_X4_sweep rfl rfl rfl (by decide +kernel) ⟨Nat.le_of_ble_eq_true rfl, Nat.le_of_ble_eq_true rfl⟩) hP hD hA hS hK hT rfl rfl rfl rfl hl.1 (Nat.le_of_ble_eq_true rfl) dL_sweep_5 ⟨Nat.le_of_ble_eq_true rfl, Nat.le_of_ble_eq_true rfl⟩ hown [] ⟨0, 9, 12, 19⟩ [] htab (fun z hz => absurd hz List.not_mem_nil) (by decide) (by decide) (hts (.classLink RL 19 "java/lang/IndexOutOfBoundsException") (by decide +kernel)) (cast_at (hT.2.2.2 _ (List.mem_of_getElem? (i := 1) rfl))) (fun B2 H locs q9 hq hP hD hS => ?_)
  obtain ⟨c1, hc1, rfl⟩ := hq
  refine lv_astore (lv' := [(4, .ref q9), (0, .ref ob), (1, .int a0), (2, .int a1), (3, .ref out)]) hx hb dL_sweep_12 hl (by decide) rfl (fun ls hl => ?_)
  refine lv_iconst (v := (nI 1)) hx hb dL_sweep_14 (by decide) ?_
  exact kGi (w := (LWd cJ cI cZ cH cB cT out ob om ahl abl asr pb atr tb mt fhl fbl ftr hA_ bA_ tA_ apx apy act asd amv asl apl asw aor aon atw aup alw fo c1 cd ee zz)) hx hb hr hlocks ⟨rfl, c1, hc1, rfl⟩ hP hK hD hS dL_sweep_15
