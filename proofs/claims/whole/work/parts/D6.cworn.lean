/-! worn of the class, whole. -/
abbrev wnv : List Nat := [82, 83, 84, 85, 86, 87, 88, 15, 12]
set_option maxRecDepth 100000 in
theorem s_explain {Γ : AMG} {Q : QQ} {d r nW : Nat} {I : II} {Lg : LJ} {R : RR} {gc : Nat → Nat} {rn : RUN} {W : Nat → Int} (hrn : RUNok rn) (hn : 0 < rn.length) (hWi : Winc nW W) (hP : PathAt I R r rn) (hT : TKAt I nW W)
    (h : ∀ I' : II, FrI VWO I I' → Q (some (vI (zI (wornA rn nW W)))) I' Lg R (GM gc)) :
    am_Sp Γ (d + 16) 0 0 mX2_explain [vR 2 0, vR 7 r, vR 10 0] I Lg R (GM gc) Q := by
  have hlen := hrn.1
  have hws := WS_0 (nW := nW) hrn hn hT.2.2.2
  have hp0 : plN rn ((0, 0, 0, 0, 0, 0) : CRW).2.1 = 0 := rfl
  have hlt : ((0, 0, 0, 0, 0, 0) : CRW).2.2.2.2.2 < ((1000000, 0) : Int × Nat).1 := by show (0 : Int) < 1000000; omega
  have hF := wearF_eq (rn := rn) (nW := nW) (W := W) 13 (0, 0, 0, 0, 0, 0) 0 (1000000, 0) hlt
  have hrg := wearF_rng (rn := rn) (nW := nW) (W := W) (f := 13) (ch := 0) hlt
  have hr0 : ((0, 0, 0, 0, 0, 0) : CRW).2.2.2.2.2 = 0 := rfl
  have hr1 : ((1000000, 0) : Int × Nat).1 = 1000000 := rfl
  refine am_runN vX2_explain 2 _ rfl rfl rfl rfl ?_
  refine s_cbegin (fun I1 f1 l1 s1 c1 h1 => ?_)
  have F1 : FrI VWO I I1 := f1.mono (fun v i q => V0_sub (by decide) (Bool.or_eq_false_iff.mp q).1)
  refine am_goN vX2_explain 5 ?_
  refine s_wearOn (d := d) hrn hWi 12 0 0 (0, 0, 0, 0, 0, 0) (1000000, 0) I1 _ _ (by omega) rfl (hP.fr F1 (VWO_out (by decide))) (hT.fr F1 (VWO_out (vs := [40]) (by decide) _ (by decide) _) (VWO_out (vs := [124]) (by decide) _ (by decide) _)) c1 hws (by omega) (by rw [hp0]; omega) (by rw [hp0]; decide) h1 ⟨by rw [hr0]; omega, by rw [hr0]; omega⟩ (by show (0 : Int) ≤ 0; omega) l1 hlt (by rw [hr1]; omega) s1 (fun I2 f2 l2 s2 => ?_)
  have F2 : FrI VWO I I2 := F1.tr f2.fr
  have l2 : I2 15 0 0 = zI (wearF rn nW W 13 (0, 0, 0, 0, 0, 0) 0 (1000000, 0)).1 := l2
  have s2 : I2 12 0 0 = zI ((wearF rn nW W 13 (0, 0, 0, 0, 0, 0) 0 (1000000, 0)).2 : Int) := s2
  have lt2 : (I2 15 0 0).toInt = (wearF rn nW W 13 (0, 0, 0, 0, 0, 0) 0 (1000000, 0)).1 := by rw [l2, zI_toInt (by omega) (by omega)]
  have h1t : (zI ((1000000 : Nat) : Int)).toInt = 1000000 := zI_toInt (by omega) (by omega)
  have hh := h I2 F2
  unfold wornA at hh
  rw [← hF] at hh
  refine am_goN vX2_explain 4 ?_
  refine And.intro (fun c => ?_) (fun c => ?_)
  · rw [lt2, h1t] at c
    rw [if_neg c] at hh
    refine am_goN vX2_explain 5 ?_
    rw [← s2] at hh
    exact hh
  · rw [lt2, h1t] at c
    rw [if_pos c] at hh
    refine am_goN vX2_explain 5 ?_
    exact hh
def VWZ : Nat → Nat → Bool := fun v i => VWO v i || V0 lyv2 v i
set_option maxRecDepth 100000 in
theorem s_worn {Γ : AMG} {Q : QQ} {d : Nat} {x1 : Int32} {I : II} {Lg : LJ} {R : RR} {gc : Nat → Nat} {rn : Nat → RUN} {sz : Nat} {bs : Nat → Int} (hrn : RNSok rn) (hc : CRunsAt I R rn) (hb : BSsok sz bs) (ht : TapeAt I sz bs)
    (hn : ¬ (tkOk sz bs ∧ ∃ r : Nat, r < 4 ∧ x1 = zI r ∧ 0 < (rn r).length) → ∀ I' : II, FrI (V0 lyv2) I I' → I' 39 0 0 = zI 0 → Q (some (vI (zI (-1)))) I' Lg R (GM gc))
    (hy : ∀ r : Nat, r < 4 → x1 = zI r → 0 < (rn r).length → tkOk sz bs → ∀ I' : II, FrI VWZ I I' → I' 39 0 0 = zI 0 → Q (some (vI (zI (wornA (rn r) (sz / 2) (tkv bs))))) I' Lg R (GM gc)) :
    am_Sp Γ (d + 17) 0 0 mX11_worn [vR 11 0, vI x1] I Lg R (GM gc) Q := by
  have k35 : ∀ (x2 : Int32) (l3 : Option AV) (I1 : II), (∀ I' : II, I' = up3 I1 39 0 0 (zI 0) → Q (some (vI x2)) I' Lg R (GM gc)) → am_J Γ mX11_worn Q (d + 17) 0 0 35 [some (vR 11 0), some (vI x1), some (vI x2), l3] [] I1 Lg R (GM gc) := by
    intro x2 l3 I1 hk
    refine am_J.er [true, true, true, false] ?_
    refine am_goN vX11_worn 3 ?_
    refine s_clear ?_
    refine am_goN vX11_worn 3 ?_
    exact hk _ rfl
  have hno : ¬ (tkOk sz bs ∧ ∃ r : Nat, r < 4 ∧ x1 = zI r ∧ 0 < (rn r).length) → ∀ I1 : II, FrI (V0 lyv2) I I1 → ∀ (x2 : Int32) (l3 : Option AV), x2 = zI (-1) → am_J Γ mX11_worn Q (d + 17) 0 0 35 [some (vR 11 0), some (vI x1), some (vI x2), l3] [] I1 Lg R (GM gc) := fun hnot I1 f1 x2 l3 hx2 => k35 x2 l3 I1 (fun I' e' => by
    rw [hx2]
    exact hn hnot I' (by rw [e']; exact f1.up rfl) (by rw [e', up3_s]))
  have hsz : ∀ r : Nat, r < 4 → (I 32 r 0).toInt = (rn r).length := fun r hr => by
    have := (hrn r hr).1
    rw [(hc r hr).1, zI_toInt (by omega) (by omega)]
  refine am_runN vX11_worn 5 _ rfl rfl rfl rfl ?_
  refine fun x2 ex2 => ?_
  refine s_pathOf (fun r hr hx hs => ?_) (fun hno' => ?_)
  · rw [hsz r hr] at hs
    refine am_goN vX11_worn 3 ?_
    refine am_goN vX11_worn 4 ?_
    refine s_readTicks hb ht (fun hok I1 f1 t1 t2 => ?_) (fun hok I1 f1 => ?_)
    · refine And.intro (fun c2 => ?_) (fun _ => ?_)
      · rw [zI_toInt (by omega) (by omega)] at c2
        omega
      have hT1 : TKAt I1 (sz / 2) (tkv bs) := ⟨t1, by have := hok.2.1; omega, t2, fun k => tkv_rng hb k⟩
      have hP1 : PathAt I1 R r (rn r) := (hc r hr).fr f1 (fun v hv i => V0_outI (by decide) v hv i)
      refine am_goN vX11_worn 7 ?_
      refine s_explain (d := d) (hrn r hr) (by omega) (fun k hk => hok.2.2 k (by omega)) hP1 hT1 (fun I2 f2 => ?_)
      refine fun x2 ex2 => ?_
      refine k35 x2 _ I2 (fun I' e' => ?_)
      rw [ex2]
      refine hy r hr hx (by omega) hok I' ?_ (by rw [e', up3_s])
      rw [e']
      refine FrI.up ?_ (by decide)
      exact (f1.mono (fun v i q => V0_sub (by decide) (Bool.or_eq_false_iff.mp q).2)).tr (f2.mono (fun v i q => (Bool.or_eq_false_iff.mp q).1))
    · refine And.intro (fun _ => ?_) (fun c2 => ?_)
      · exact hno (fun z => hok z.1) I1 (f1.mono (fun v i q => V0_sub (by decide) q)) x2 _ ex2
      · rw [zI_toInt (by omega) (by omega)] at c2
        omega
  · refine am_goN vX11_worn 3 ?_
    refine hno ?_ I FrI.rf x2 _ ex2
    rintro ⟨-, r, hr, hx, hl⟩
    rcases hno' with q | ⟨r', hr', hx', hs'⟩
    · rw [hx, zI_toInt (by omega) (by omega)] at q
      omega
    · have : r' = r := by
        have := zI_inj (by omega) (by omega) (by omega) (by omega) (hx'.symm.trans hx)
        omega
      subst this
      rw [hsz r' hr'] at hs'
      omega
