/-! the law, call by call -/
def lJ (hi lo : Int32) : Int64 := (hi.toInt64 <<< ((nI 32).toInt64 &&& 63)) ||| (lo.toInt64 &&& 4294967295)
theorem nI_z {k : Nat} (hk : k < 4) (h : nI k = 0) : k = 0 := by
  have h2 := congrArg Int32.toInt h
  rw [nI_toInt (by omega)] at h2
  have e0 : (0 : Int32).toInt = 0 := by decide
  omega
theorem thrownG (l : Launch) (dC : Nat → ClassId) (dI : Nat → Nat → Nat) (cJ cI cZ cH cB cT : ClassId) (out ob om ahl abl asr pb atr tb mt : Nat) (fhl fbl ftr : Nat → Option Nat) (hA_ : Nat → Nat × Nat × Nat × Nat × Nat) (bA_ tA_ : Nat → Nat) (apx apy act asd amv asl apl asw aor aon atw aup alw : Nat) (fo : Nat → Int64) (c : CD) (cd : Nat) (ee : ED) (zz : ZD) : GMi l yX5_thrown wsX5_thrown rmM [.ref om] (dC, dI) (LWd cJ cI cZ cH cB cT out ob om ahl abl asr pb atr tb mt fhl fbl ftr hA_ bA_ tA_ apx apy act asd amv asl apl asw aor aon atw aup alw fo c cd ee zz) (tysL cJ cI cZ cH cB cT) (fun r w => r = nI cd ∧ w = (LWd cJ cI cZ cH cB cT out ob om ahl abl asr pb atr tb mt fhl fbl ftr hA_ bA_ tA_ apx apy act asd amv asl apl asw aor aon atw aup alw fo c cd ee zz)) := by
  obtain ⟨ns, fpx, fpy, ct, nb, fsd, fmv, fsl, fpl, fsw, nw⟩ := ee
  obtain ⟨nc, od, fon, ftw, mx, my, fup, flw, nm, up, lo, rx, ry⟩ := zz
  exact GMi.conv (uX5_thrown l dC dI cJ cI cZ cH cB cT out ob om ahl abl asr pb atr tb mt fhl fbl ftr hA_ bA_ tA_ apx apy act asd amv asl apl asw aor aon atw aup alw fo c cd ns fpx fpy ct nb fsd fmv fsl fpl fsw nw nc od fon ftw mx my fup flw nm up lo rx ry) ⟨Nat.le_of_ble_eq_true rfl, Nat.le_of_ble_eq_true rfl, Nat.le_of_ble_eq_true rfl, Nat.le_of_ble_eq_true rfl⟩ (fun _ _ h => h)
section GS
variable {p : Program} {l : Launch} {e : Env} {R : Room} {s : State} {m : MethodId} {args : Array Value} {below : List Frame} {meth : Method} {c : Code} {H : Heap} {locs : List Loc} {cells slots : Nat} {Q : State → Prop}
variable {cc : ByteArray} {pc nL n index maxL : Nat} {ls : Array Slot} {rest As st : List Value} {D : va_G} {B : va_W} {tys : List (ClassId × FieldType)} {A : Nat → Prop} {own : String} {y : MethodName} {wsC Ts : List Cond} {rmC : Room} {bytes : ByteArray} {ret : Option FieldType} {hh : List (Nat × Nat × Nat × Nat)}
theorem gSH {Q' : Int32 → va_W → Prop} (S0 : CallFix p m c cc nL s args Ts own) (hM : GHi l y wsC rmC As D B tys Q') (cw : vx_CSW R s args own index y bytes maxL ret hh wsC rmC 1 6 n) (hP : va_P D vwCl B H) (hD : va_D A B) (hA : ∀ q, s.heap.size ≤ q → A q) (hS : va_S A s.heap H locs) (hK : va_K D vwCl tys s) (hT : tS A s) (hnc : ncS s) (hn : As.length = n) (hst : st = As.reverse ++ rest) (hsz : ls.size = nL) (hW : (rest.map fun v => v.category).sum ≤ 8) (hd : decode cc pc = .ok (.invokestatic index, 3)) (hf : cells + 1 ≤ R.cells ∧ slots + 6 ≤ R.slots)
    (kk : ∀ (r : Int32) (B2 : va_W) (H1 : Heap) (locs1 : List Loc), Q' r B2 → va_P D vwCl B2 H1 → va_D A B2 → va_S A s.heap H1 locs1 → W p l e R s m args below meth c H1 locs1 (cells + 1) (slots + 6) Q (F0 m (pc + 3) ls (.int r :: rest))) : W p l e R s m args below meth c H locs cells slots Q (F0 m pc ls st) := by
  subst hst
  have hFc := vaFree0 hD hS hA
  exact va_calli (vx_runSW (As := As) (rest := rest) S0 (hM H.size) cw ⟨kHB.blind, fun U hU hW => ⟨rfl, ⟨⟨by rw [hU], by rw [hU]; exact hP, va_K.moved hW.alike hK, hD.weaken (fun _ _ _ _ => trivial)⟩, hT.call hS hU hW hFc⟩, hnc.moved hW.alike⟩⟩ rfl hn hsz rfl (lv_room hW) hd hf) hS (fun q _ h => hFc q h) hFc (fun x u t H1 locs1 ht hvm hw hB hz1 hk1 hS1 => by
    obtain ⟨hP1, hK1, hD1⟩ := hB
    rw [ht] at hP1
    exact kk x u H1 locs1 hw hP1 (hD1.weaken (fun _ q _ hq => hFc _ hq)) hS1)
theorem W.eqC {g : JFrame} {k n : Nat} (h1 : cells = k) (h2 : slots = n) (h : W p l e R s m args below meth c H locs k n Q g) : W p l e R s m args below meth c H locs cells slots Q g := by subst h1; subst h2; exact h
end GS
