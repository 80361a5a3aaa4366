/-! event and sound of the class throw. -/
set_option maxRecDepth 100000 in
theorem s_xevent {Γ : AMG} {Q : QQ} {QX : II → LJ → RR → GG → Prop} {d : Nat} {x1 x2 : Int32} {I : II} {Lg : LJ} {R : RR} {gc : Nat → Nat} {l : List MC} {S : PS} (hT : am_TK Γ) (hl : MCsok l) (hm : CMAt I l) (hp : PlanAt I 9 S) (hes : EVsok l S.1)
    (hno : ¬ (0 ≤ x1.toInt ∧ x1.toInt < S.1.length ∧ 0 ≤ x2.toInt ∧ x2.toInt ≤ 4) → QX I Lg R (GM gc))
    (hy : ∀ (k : Nat) (e : EV), x1 = zI k → S.1[k]? = some e → 0 ≤ x2.toInt → x2.toInt ≤ 4 → Q (some (vI (zI (evA l e x2.toInt)))) I Lg R (GM gc)) :
    am_SpX Γ (d + 6) 1 6 mT_event [vR 11 0, vI x1, vI x2] I Lg R (GM gc) Q QX := by
  refine am_SpX.of (is := 171) (sa := Γ.SA 3) (tpc := 26) (tx := "no such EVENT") rfl rfl rfl (Nat.le_of_ble_eq_true rfl) rfl rfl (by decide +kernel) (by decide +kernel) (by decide +kernel) (by decide +kernel) (by decide +kernel) hT (fun U hU => (hT.2 U hU).2.2.2.2.1) tw_in tw_ng tw_good ?_
  have hl24 := hp.2.1
  have hkt : (I 33 9 0 - zI 1).toInt = (S.1.length : Int) - 1 := by rw [hp.1, zI_sub, zI_toInt (by omega) (by omega)]
  show am_J Γ mT_event _ (d + 6) 0 0 0 [some (vR 11 0), some (vI x1), some (vI x2), none, none] [] I Lg R (GM gc)
  refine am_goN vT_event 9 ?_
  refine s_within (fun w1 w2 => ?_) (fun w => ?_)
  · rw [hkt, zI_toInt (by omega) (by omega)] at *
    refine And.intro (fun c => ?_) (fun _ => ?_)
    · rw [zI_toInt (by omega) (by omega)] at c
      omega
    refine am_goN vT_event 5 ?_
    refine s_within (fun w3 w4 => ?_) (fun w => ?_)
    · rw [zI_toInt (by omega) (by omega)] at w3 w4
      refine And.intro (fun _ => ?_) (fun c => ?_)
      · have hx1 : x1 = zI x1.toInt.toNat := by rw [show ((x1.toInt.toNat : Nat) : Int) = x1.toInt by omega, zI_self]
        have he : S.1[x1.toInt.toNat]? = some S.1[x1.toInt.toNat] := List.getElem?_eq_getElem (by omega)
        generalize S.1[x1.toInt.toNat] = e at he
        have h := hy _ e hx1 he (by omega) w4
        obtain ⟨v1, v2, v3, v4, v5, v6⟩ := hes.2 _ e he
        have hme : l[e.2.1.toNat]? = some (mof l e.2.1) := mof_get v3 v4
        have hmk := hl.2 _ _ hme
        unfold evA at h
        refine am_goN vT_event 60 ?_
        refine s_machineOfE hp hx1 he ?_
        refine fun y3 ey3 => ?_
        refine s_numberOfE hp hx1 he ?_
        refine fun y4 ey4 => ?_
        have ey3 : y3 = zI e.2.1.toNat := by rw [ey3, show ((e.2.1.toNat : Nat) : Int) = e.2.1 by omega]
        refine And.intro (fun c => ?_) ⟨fun c => ?_, fun c => ?_, fun c => ?_, fun c => ?_, trivial⟩
        · rw [if_neg (by omega), if_neg (by omega), if_neg (by omega), if_neg (by omega)] at h
          exact s_cm_strength hl.1 hm ey3 ey4 hme hmk h
        · rw [if_pos (by omega)] at h
          exact s_tickOfE hp hx1 he h
        · rw [if_neg (by omega), if_pos (by omega)] at h
          rw [ey3, show ((e.2.1.toNat : Nat) : Int) = e.2.1 by omega]
          exact h
        · rw [if_neg (by omega), if_neg (by omega), if_pos (by omega)] at h
          rw [ey4]
          exact h
        · rw [if_neg (by omega), if_neg (by omega), if_neg (by omega), if_pos (by omega)] at h
          exact s_cm_takes hl.1 hm ey3 ey4 hme hmk h
      · rw [zI_toInt (by omega) (by omega)] at c
        omega
    · rw [zI_toInt (by omega) (by omega), zI_toInt (by omega) (by omega)] at w
      refine And.intro (fun c => ?_) (fun _ => ?_)
      · exact absurd rfl c
      · exact ar_thr rfl (hno (by omega))
  · rw [hkt, zI_toInt (by omega) (by omega)] at w
    refine And.intro (fun _ => ?_) (fun c => ?_)
    · exact ar_thr rfl (hno (by omega))
    · exact absurd rfl c
set_option maxRecDepth 100000 in
theorem s_xsound {Γ : AMG} {Q : QQ} {QX : II → LJ → RR → GG → Prop} {d : Nat} {x1 x2 : Int32} {I : II} {Lg : LJ} {R : RR} {gc : Nat → Nat} {ks : KS} (hT : am_TK Γ) (hl : ks.length ≤ 300) (hn : I 24 0 0 = zI ks.length) (hK : KAt I 109 110 111 0 ks)
    (hno : ¬ (0 ≤ x1.toInt ∧ x1.toInt < ks.length ∧ 0 ≤ x2.toInt ∧ x2.toInt ≤ 2) → QX I Lg R (GM gc))
    (hy : 0 ≤ x1.toInt → x1.toInt < ks.length → 0 ≤ x2.toInt → x2.toInt ≤ 2 → Q (some (vI (zI (ksA ks x1.toInt x2.toInt)))) I Lg R (GM gc)) :
    am_SpX Γ (d + 6) 1 6 mT_sound [vR 11 0, vI x1, vI x2] I Lg R (GM gc) Q QX := by
  refine am_SpX.of (is := 195) (sa := Γ.SA 5) (tpc := 26) (tx := "no such SOUND") rfl rfl rfl (Nat.le_of_ble_eq_true rfl) rfl rfl (by decide +kernel) (by decide +kernel) (by decide +kernel) (by decide +kernel) (by decide +kernel) hT (fun U hU => (hT.2 U hU).2.2.2.2.2) tw_in tw_ng tw_good ?_
  have hkt : (I 24 0 0 - zI 1).toInt = (ks.length : Int) - 1 := by rw [hn, zI_sub, zI_toInt (by omega) (by omega)]
  show am_J Γ mT_sound _ (d + 6) 0 0 0 [some (vR 11 0), some (vI x1), some (vI x2)] [] I Lg R (GM gc)
  refine am_goN vT_sound 9 ?_
  refine s_within (fun w1 w2 => ?_) (fun w => ?_)
  · rw [hkt, zI_toInt (by omega) (by omega)] at *
    refine And.intro (fun c => ?_) (fun _ => ?_)
    · rw [zI_toInt (by omega) (by omega)] at c
      omega
    refine am_goN vT_sound 5 ?_
    refine s_within (fun w3 w4 => ?_) (fun w => ?_)
    · rw [zI_toInt (by omega) (by omega)] at w3 w4
      refine And.intro (fun _ => ?_) (fun c => ?_)
      · refine am_goN vT_sound 20 ?_
        refine s_soundAt hl hK w1 (by omega) w3 w4 ?_
        exact hy w1 (by omega) w3 w4
      · rw [zI_toInt (by omega) (by omega)] at c
        omega
    · rw [zI_toInt (by omega) (by omega), zI_toInt (by omega) (by omega)] at w
      refine And.intro (fun c => ?_) (fun _ => ?_)
      · exact absurd rfl c
      · exact ar_thr rfl (hno (by omega))
  · rw [hkt, zI_toInt (by omega) (by omega)] at w
    refine And.intro (fun _ => ?_) (fun c => ?_)
    · exact ar_thr rfl (hno (by omega))
    · exact absurd rfl c
