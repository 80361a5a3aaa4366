/-! lay of the reference, whole. -/
abbrev mlayv : List Nat := [47, 48, 80, 175, 131, 81, 132, 133, 176, 50, 51, 52, 53, 54, 55, 57, 56, 136, 137, 138]
abbrev mlay0 : List Nat := [47, 48, 80, 175]
set_option maxRecDepth 100000 in
theorem mlay_pow {Γ : AMG} {Q : QQ} {d c n : Nat} {x1 x2 : Int32} {l5 l6 l7 l8 : Option AV} {I : II} {Lg : LJ} {R : RR} {gc : Nat → Nat} (hc : c ≤ 8) (hn : n ≤ 4) (hx1 : x1 = zI n) (hx2 : x2 = zI c)
    (h : ∀ x3 x4 : Int32, x3 = zI (c ^ n : Nat) → am_J Γ mX12_lay Q d 0 0 70 [some (vR 12 0), some (vI x1), some (vI x2), some (vI x3), some (vI x4), l5, l6, l7, l8] [] I Lg R (GM gc)) :
    ∀ (m k : Nat) (x3 x4 : Int32), k + m = n → x4 = zI k → x3 = zI (c ^ k : Nat) → am_J Γ mX12_lay Q d 0 0 54 [some (vR 12 0), some (vI x1), some (vI x2), some (vI x3), some (vI x4), l5, l6, l7, l8] [] I Lg R (GM gc) := by
  intro m
  induction m with
  | zero =>
    intro k x3 x4 hm hx4 hx3
    refine am_goN vX12_lay 3 ?_
    refine And.intro (fun _ => ?_) (fun c1 => ?_)
    · exact h x3 x4 (by rw [hx3, show k = n by omega])
    · rw [hx4, hx1, zI_toInt (by omega) (by omega), zI_toInt (by omega) (by omega)] at c1
      omega
  | succ m ih =>
    intro k x3 x4 hm hx4 hx3
    refine am_goN vX12_lay 3 ?_
    refine And.intro (fun c1 => ?_) (fun _ => ?_)
    · rw [hx4, hx1, zI_toInt (by omega) (by omega), zI_toInt (by omega) (by omega)] at c1
      omega
    refine am_goN vX12_lay 6 ?_
    refine fun y3 ey3 y4 ey4 => ?_
    exact ih (k + 1) y3 y4 (by omega) (by rw [ey4, hx4, zI_add]; congr 1) (by rw [ey3, hx3, hx2, zI_pow_mul])
set_option maxRecDepth 100000 in
theorem s_mlay {Γ : AMG} {Q : QQ} {d : Nat} {x1 : Int32} {I : II} {Lg : LJ} {R : RR} {gc : Nat → Nat} {bd : List BD} {sz : Nat} {bs : Nat → Int} (hb : BSsok sz bs) (ht : MTapeAt I sz bs) (hbd : BDsok bd) (hst : MStockAt I bd) (hless : ∀ v, I 135 0 v = zI 0)
    (hn : ¬ (1 ≤ x1.toInt ∧ x1.toInt ≤ 4 ∧ 0 < bd.length ∧ tkOk sz bs) → ∀ I' : II, FrI (V0 mlay0) I I' → I' 47 0 0 = zI 0 → I' 48 0 0 = zI 0 → Q (some (vI (zI (-1)))) I' Lg R (GM gc))
    (hy : ∀ n : Nat, x1 = zI n → 1 ≤ n → n ≤ 4 → 0 < bd.length → tkOk sz bs → ∀ I' : II, FrI (V0 mlayv) I I' → I' 47 0 0 = zI 0 → I' 48 0 0 = zI 0 → (∀ v, v < 48 → I' 132 0 v = I 132 0 v ∧ I' 133 0 v = I 133 0 v) → (∀ v, v ≠ 4 → I' 131 0 v = I 131 0 v) → I' 81 0 0 = zI n → (∀ k, k < n → I' 176 0 k = zI ((layA bd (sz / 2) (tkv bs) n).2.getD k 0 : Nat)) → (layA bd (sz / 2) (tkv bs) n).2.length = n → Q (some (vI (zI (layA bd (sz / 2) (tkv bs) n).1))) I' Lg R (GM gc)) :
    am_Sp Γ (d + 4) 0 0 mX12_lay [vR 12 0, vI x1] I Lg R (GM gc) Q := by
  have hbl := hbd.1
  refine am_runN vX12_lay 3 _ rfl rfl rfl rfl ?_
  refine fun y0 ey0 I0 e0 => ?_
  have f0 : FrI (V0 [47]) I I0 := by rw [e0]; exact FrI.rf.up rfl
  have th0 : I0 47 0 0 = zI 0 := by rw [e0, up3_s, ey0]
  refine am_goN vX12_lay 3 ?_
  refine s_takeTicks hb (ht.fr f0 rfl rfl) (fun hok I1 f1 t1 w1 wd1 => ?_) (fun hok I1 f1 t1 => ?_)
  · have F1 : FrI (V0 mlay0) I I1 := (f0.mono (fun v i q => V0_sub (by decide) q)).tr (f1.mono (fun v i q => V0_sub (by decide) q))
    have th1 : I1 47 0 0 = zI 0 := by rw [f1 _ _ rfl]; exact th0
    have hbt : (I1 49 0 0).toInt = bd.length := by rw [F1 _ _ rfl, hst.1, zI_toInt (by omega) (by omega)]
    refine And.intro (fun c1 => ?_) (fun _ => ?_)
    · rw [zI_toInt (by omega) (by omega)] at c1
      omega
    have no : ¬ (1 ≤ x1.toInt ∧ x1.toInt ≤ 4 ∧ 0 < bd.length ∧ tkOk sz bs) → am_J Γ mX12_lay Q (d + 4) 0 0 28 [some (vR 12 0), some (vI x1), none, none, none, none, none, none, none] [] I1 Lg R (GM gc) := fun hno => by
      refine am_goN vX12_lay 3 ?_
      exact hn hno I1 F1 th1 t1
    refine am_goN vX12_lay 5 ?_
    refine s_isIn (fun w2 w3 => ?_) (fun w2 => ?_)
    · rw [zI_toInt (by omega) (by omega)] at w2 w3
      refine And.intro (fun c1 => ?_) (fun _ => ?_)
      · rw [zI_toInt (by omega) (by omega)] at c1
        omega
      refine am_goN vX12_lay 3 ?_
      refine And.intro (fun c1 => ?_) (fun c1 => ?_)
      · rw [hbt] at c1
        have hx1 : x1 = zI (x1.toInt.toNat : Nat) := by rw [show ((x1.toInt.toNat : Nat) : Int) = x1.toInt by omega, zI_self]
        generalize hn9 : x1.toInt.toNat = n at hx1
        have hn1 : 1 ≤ n := by omega
        have hn4 : n ≤ 4 := by omega
        have st1 : MStockAt I1 bd := hst.fr F1 (fun v hv => V0_outI (by decide) v hv 0)
        have hW : ∀ k, 0 ≤ tkv bs k ∧ tkv bs k ≤ 65535 := fun k => tkv_rng hb k
        have hnW : sz / 2 ≤ 10 := by have := hok.2.1; omega
        -- how many boards, then how many ways
        have k48 : ∀ y : Int32, y = zI (min bd.length 8 : Nat) → am_J Γ mX12_lay Q (d + 4) 0 0 48 [some (vR 12 0), some (vI x1), none, none, none, none, none, none, none] [vI y] I1 Lg R (GM gc) := by
          intro y hy9
          refine am_goN vX12_lay 5 ?_
          refine fun x2 ex2 x3 ex3 x4 ex4 => ?_
          have hx2 : x2 = zI (min bd.length 8 : Nat) := by rw [ex2, hy9]
          refine mlay_pow (c := min bd.length 8) (n := n) (by omega) hn4 hx1 hx2 (fun x3 x4 hx3 => ?_) n 0 x3 x4 (by omega) ex4 (by rw [ex3, Nat.pow_zero]; rfl)
          refine am_goN vX12_lay 7 ?_
          refine fun x4 ex4 => ?_
          refine And.intro ⟨by decide, by decide⟩ ?_
          refine fun y3 ey3 I3 e3 => ?_
          have h4n : (zI 4).toInt.toNat = 4 := rfl
          rw [h4n] at e3
          have f3 : FrI (V0 [131]) I1 I3 := by rw [e3]; exact FrI.rf.up rfl
          refine am_goN vX12_lay 2 ?_
          refine fun x5 ex5 => ?_
          refine mlay_ways (bd := bd) (n := n) (nW := sz / 2) (W := tkv bs) (I := I3) (q0 := []) hbd (by omega) (st1.fr f3 (fun v hv => V0_outI (by decide) v hv 0)) (fun v => by rw [f3 _ _ rfl, F1 _ _ rfl]; exact hless v) hn1 hn4 hnW (by rw [f3 _ _ rfl]; exact w1) (fun k hk => by rw [f3 _ _ rfl]; exact wd1 k hk) hW hx1 hx2 hx3 (fun I4 f4 la4 len4 I5 e5 => ?_) (min bd.length 8 ^ n) 0 x4 x5 _ _ _ I3 (by omega) ex5 ex4 ⟨FrI.rf, fun v _ => ⟨rfl, rfl⟩⟩ (fun z => absurd z (by omega))
          have F4 : FrI (V0 mlayv) I I4 := ((F1.mono (fun v i q => V0_sub (by decide) q)).tr (f3.mono (fun v i q => V0_sub (by decide) q))).tr (f4.1.mono (fun v i q => V0_sub (by decide) q))
          have f5 : FrI (V0 [81]) I4 I5 := by rw [e5]; exact FrI.rf.up rfl
          refine hy n hx1 hn1 hn4 (by omega) hok I5 (F4.tr (f5.mono (fun v i q => V0_sub (by decide) q))) ?_ ?_ (fun v hv => ?_) (fun v hv => ?_) ?_ (fun k hk => ?_) len4
          · rw [f5 _ _ rfl, f4.1 _ _ rfl, f3 _ _ rfl]; exact th1
          · rw [f5 _ _ rfl, f4.1 _ _ rfl, f3 _ _ rfl]; exact t1
          · obtain ⟨q1, q2⟩ := f4.2 v hv
            rw [f5 _ _ rfl, f5 _ _ rfl, q1, q2, f3 _ _ rfl, f3 _ _ rfl, F1 _ _ rfl, F1 _ _ rfl]
            exact ⟨rfl, rfl⟩
          · rw [f5 _ _ rfl, f4.1 _ _ rfl, e3, up3_j _ hv, F1 _ _ rfl]
          · rw [e5, up3_s, hx1]
          · rw [f5 _ _ rfl]
            exact la4 k hk
        refine am_goN vX12_lay 4 ?_
        refine And.intro (fun c2 => ?_) (fun c2 => ?_)
        · rw [hbt, zI_toInt (by omega) (by omega)] at c2
          refine am_goN vX12_lay 1 ?_
          exact k48 (zI 8) (by congr 1; omega)
        · rw [hbt, zI_toInt (by omega) (by omega)] at c2
          refine am_goN vX12_lay 3 ?_
          refine k48 _ ?_
          rw [F1 _ _ rfl, hst.1]
          congr 1
          omega
      · rw [hbt] at c1
        exact no (by omega)
    · rw [zI_toInt (by omega) (by omega), zI_toInt (by omega) (by omega)] at w2
      refine And.intro (fun _ => ?_) (fun c1 => ?_)
      · exact no (by omega)
      · rw [zI_toInt (by omega) (by omega)] at c1
        omega
  · refine And.intro (fun _ => ?_) (fun c1 => ?_)
    · refine am_goN vX12_lay 3 ?_
      exact hn (fun z => hok z.2.2.2) I1 ((f0.mono (fun v i q => V0_sub (by decide) q)).tr (f1.mono (fun v i q => V0_sub (by decide) q))) (by rw [f1 _ _ rfl]; exact th0) t1
    · rw [zI_toInt (by omega) (by omega)] at c1
      omega
