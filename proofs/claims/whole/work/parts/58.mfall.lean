abbrev mfall_v : List Nat := 47 :: 58 :: mtv ++ mfv
set_option maxRecDepth 100000 in
theorem s_mfall {Γ : AMG} {Q : QQ} {d : Nat} {x1 g x3 : Int32} {I : II} {Lg : LJ} {R : RR} {gc : Nat → Nat} {rn : Nat → RUN} (hrn : RNSok rn) (hc : MRunsAt I rn)
    (hn : (¬ ∃ r : Nat, r < 4 ∧ x1 = zI r ∧ 0 < (rn r).length ∧ 0 ≤ x3.toInt ∧ x3.toInt ≤ 3) → Q (some (vI (zI (-2)))) (up3 I 47 0 0 (zI 0)) Lg R (GM gc))
    (hy : ∀ r : Nat, r < 4 → x1 = zI r → 0 < (rn r).length → 0 ≤ x3.toInt → x3.toInt ≤ 3 → ∀ I' : II, FrI (V0 mfall_v) I I' → I' 47 0 0 = zI 0 → I' 58 0 0 = zI (fall9 (rn r) g nols).ks.length → KAt I' 139 140 141 0 (fall9 (rn r) g nols).ks → Q (some (vI (zI (fAns (fall9 (rn r) g nols) x3.toInt)))) I' Lg R (GM gc)) :
    am_Sp Γ (d + 3) 0 0 mX12_fall [vR 12 0, vI x1, vI g, vI x3] I Lg R (GM gc) Q := by
  refine am_runN vX12_fall 60 _ rfl rfl rfl rfl ?_
  refine fun y0 ey0 I0 e0 => ?_
  have e0' : I0 = up3 I 47 0 0 (zI 0) := by rw [e0, ey0]
  have f0 : FrI (V0 [47]) I I0 := by rw [e0]; exact FrI.rf.up rfl
  have hpl : ∀ r : Nat, r < 4 → (I0 131 0 r).toInt = (rn r).length := by
    intro r hr
    have := (hrn r hr).1
    rw [f0 _ _ rfl, (hc.1 r hr).1, zI_toInt (by omega) (by omega)]
  refine s_isRun (fun j1 j2 j3 => ?_) (fun j1 => ?_)
  · have hr : x1.toInt.toNat < 4 := by omega
    have hx1 : x1 = zI x1.toInt.toNat := by rw [show ((x1.toInt.toNat : Nat) : Int) = x1.toInt by omega, zI_self]
    rw [hpl _ hr] at j3
    have hnl : ¬ (0 ≤ x3.toInt ∧ x3.toInt ≤ 3) → Q (some (vI (zI (-2)))) I0 Lg R (GM gc) := by
      intro q
      rw [e0']
      refine hn (fun z => ?_)
      obtain ⟨_, _, _, _, z1, z2⟩ := z
      exact q ⟨z1, z2⟩
    refine And.intro (fun c => ?_) (fun c => ?_)
    · rw [zI_toInt (by omega) (by omega)] at c
      omega
    refine And.intro (fun c2 => ?_) (fun c2 => ?_)
    · exact hnl (by omega)
    refine And.intro (fun c3 => ?_) (fun c3 => ?_)
    · rw [zI_toInt (by omega) (by omega)] at c3
      refine s_mfollow (rn := rn x1.toInt.toNat) (ls := nols) (hrn _ hr) (by omega) (((hc.1 _ hr).2 g).fr f0 (V0_out (by decide))) nols_ok (fun p hp => by rw [f0 _ _ rfl]; exact hc.2 _) (by omega) hx1 (fun I2 st f2 s2 => ?_)
      have hok := foll_ok (g := g) (hrn _ hr) nols_ok 2000 1 FS0 (by decide) (FS0_ok (hrn _ hr) (by omega))
      refine fun y1 ey1 I3 e3 x4 ex4 => ?_
      have f3 : FrI (V0 [58]) I2 I3 := by rw [e3]; exact FrI.rf.up rfl
      have s3 : MFS I3 st (fall9 (rn x1.toInt.toNat) g nols).fa (fall9 (rn x1.toInt.toNat) g nols).en ((fall9 (rn x1.toInt.toNat) g nols).pl, (fall9 (rn x1.toInt.toNat) g nols).pt, (fall9 (rn x1.toInt.toNat) g nols).sp) (fall9 (rn x1.toInt.toNat) g nols).jm (fall9 (rn x1.toInt.toNat) g nols).ks := by
        obtain ⟨a1, a2, a3, a4, a5⟩ := s2
        exact ⟨a1.fr f3 (by decide), by rw [f3 _ _ rfl]; exact a2, by rw [f3 _ _ rfl]; exact a3, by rw [f3 _ _ rfl]; exact a4, a5.frl f3 rfl rfl rfl⟩
      refine mfall_copy (S := fall9 (rn x1.toInt.toNat) g nols) hok.2.1 s3 (by omega) (by omega) (fun I4 f4 k4 => ?_) (fall9 (rn x1.toInt.toNat) g nols).ks.length 0 x4 I3 (by omega) ex4 FrI.rf (fun k e he => by cases he)
      refine hy _ hr hx1 (by omega) (by omega) (by omega) I4 ?_ (by rw [f4 _ _ rfl, f3 _ _ rfl, f2 _ _ rfl, e0', up3_s]) (by rw [f4 _ _ rfl, e3, up3_s, ey1]; exact s2.2.2.2.1) k4
      exact (f0.mono (fun v i h => V0_sub (by decide) h)).tr ((f2.mono (fun v i h => V0_sub (by decide) h)).tr ((f3.mono (fun v i h => V0_sub (by decide) h)).tr (f4.mono (fun v i h => V0_sub (by decide) h))))
    · rw [zI_toInt (by omega) (by omega)] at c3
      exact hnl (by omega)
  · have hno : Q (some (vI (zI (-2)))) I0 Lg R (GM gc) := by
      rw [e0']
      refine hn (fun z => ?_)
      obtain ⟨r, hr, hx, hl, -⟩ := z
      have hxt : x1.toInt = r := by rw [hx, zI_toInt (by omega) (by omega)]
      rcases j1 with j1 | j1 | ⟨_, _, j1⟩
      · omega
      · omega
      · rw [hxt, Int.toNat_natCast, hpl r hr] at j1
        omega
    refine And.intro (fun c => ?_) (fun c => ?_)
    · exact hno
    · rw [zI_toInt (by omega) (by omega)] at c
      omega
