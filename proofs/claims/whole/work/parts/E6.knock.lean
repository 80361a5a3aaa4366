/-! knock, event and sound of the class, and the law's methods that call them. -/
def mT_knock : MD := (mX11_knock.1, mX11_knock.2.1, mX11_knock.2.2.1, mX11_knock.2.2.2.1, mX11_knock.2.2.2.2.1, 126)
def mT_event : MD := (mX11_event.1, mX11_event.2.1, mX11_event.2.2.1, mX11_event.2.2.2.1, mX11_event.2.2.2.2.1, 126)
def mT_sound : MD := (mX11_sound.1, mX11_sound.2.1, mX11_sound.2.2.1, mX11_sound.2.2.2.1, mX11_sound.2.2.2.2.1, 126)
theorem vT_knock : ∀ pc, am_chk mT_knock pc (am_lk am_ce0 kX11_knock pc) = true := am_vld_ok (n := 46) (by decide +kernel)
theorem vT_event : ∀ pc, am_chk mT_event pc (am_lk am_ce0 kX11_event pc) = true := am_vld_ok (n := 124) (by decide +kernel)
theorem vT_sound : ∀ pc, am_chk mT_sound pc (am_lk am_ce0 kX11_sound pc) = true := am_vld_ok (n := 46) (by decide +kernel)
theorem tw_in : ∀ w ∈ Cond.classLink "StormLoft" 129 XNS :: Cond.initialized XNS :: (tx_at "StormLoft" 133).filter goodWord, w ∈ am_BIG := tx_atIn _ [1231, 120, 117, 1253, 1262, 1264, 1267, 1269, 1254, 1255, 131, 132, 1256, 1261, 1265, 1285, 1243, 1286, 1245, 1287, 1247, 1257, 1259, 1249, 1281, 1282, 1284, 1249, 1272, 1273, 1274, 1275, 1275, 1276, 1277, 1278, 1278, 1279, 1280, 1281, 1271, 1232, 1240, 1241, 1242, 1244, 1246, 1248, 1252, 1251, 1250] (by decide +kernel) (by decide +kernel)
theorem tw_ng : ∀ w ∈ (tx_at "StormLoft" 133).filter (fun w => !goodWord w), w ∈ tx_ng := by decide +kernel
theorem tw_good : ∀ w ∈ Cond.classLink "StormLoft" 129 XNS :: Cond.initialized XNS :: tx_at "StormLoft" 133, vx_ot w = true := by decide +kernel
theorem tx_one {w : Cond} {i : Nat} (h : [w] = [i].filterMap (fun i => lw_tbl[i]?)) (hg : [w].all goodWord = true) : w ∈ am_BIG := tx_atIn [w] [i] h hg w List.mem_cons_self
set_option maxRecDepth 100000 in
theorem s_xknock {Γ : AMG} {Q : QQ} {QX : II → LJ → RR → GG → Prop} {d : Nat} {x1 x2 : Int32} {I : II} {Lg : LJ} {R : RR} {gc : Nat → Nat} {ks : KS} (hT : am_TK Γ) (hl : ks.length ≤ 12) (hn : I 19 0 0 = zI ks.length) (hK : KAt I 102 103 104 0 ks)
    (hno : ¬ (0 ≤ x1.toInt ∧ x1.toInt < ks.length ∧ 0 ≤ x2.toInt ∧ x2.toInt ≤ 2) → QX I Lg R (GM gc))
    (hy : 0 ≤ x1.toInt → x1.toInt < ks.length → 0 ≤ x2.toInt → x2.toInt ≤ 2 → Q (some (vI (zI (ksA ks x1.toInt x2.toInt)))) I Lg R (GM gc)) :
    am_SpX Γ (d + 6) 1 6 mT_knock [vR 11 0, vI x1, vI x2] I Lg R (GM gc) Q QX := by
  refine am_SpX.of (is := 131) (sa := Γ.SA 4) (tpc := 26) (tx := "no such KNOCK") rfl rfl rfl (Nat.le_of_ble_eq_true rfl) rfl rfl (by decide +kernel) (by decide +kernel) (by decide +kernel) (by decide +kernel) (by decide +kernel) hT (fun U hU => (hT.2 U hU).2.2.2.1) tw_in tw_ng tw_good ?_
  have hkt : (I 19 0 0 - zI 1).toInt = (ks.length : Int) - 1 := by rw [hn, zI_sub, zI_toInt (by omega) (by omega)]
  show am_J Γ mT_knock _ (d + 6) 0 0 0 [some (vR 11 0), some (vI x1), some (vI x2)] [] I Lg R (GM gc)
  refine am_goN vT_knock 9 ?_
  refine s_within (fun w1 w2 => ?_) (fun w => ?_)
  · rw [hkt, zI_toInt (by omega) (by omega)] at *
    refine And.intro (fun c => ?_) (fun _ => ?_)
    · rw [zI_toInt (by omega) (by omega)] at c
      omega
    refine am_goN vT_knock 5 ?_
    refine s_within (fun w3 w4 => ?_) (fun w => ?_)
    · rw [zI_toInt (by omega) (by omega)] at w3 w4
      refine And.intro (fun _ => ?_) (fun c => ?_)
      · refine am_goN vT_knock 20 ?_
        refine s_knockAt hl hK w1 (by omega) w3 w4 ?_
        exact hy w1 (by omega) w3 w4
      · rw [zI_toInt (by omega) (by omega)] at c
        omega
    · rw [zI_toInt (by omega) (by omega), zI_toInt (by omega) (by omega)] at w
      refine And.intro (fun c => ?_) (fun _ => ?_)
      · exact absurd rfl c
      · exact ar_thr rfl (hno (by omega))
  · rw [hkt, zI_toInt (by omega) (by omega)] at w
    refine And.intro (fun _ => ?_) (fun c => ?_)
    · exact ar_thr rfl (hno (by omega))
    · exact absurd rfl c
