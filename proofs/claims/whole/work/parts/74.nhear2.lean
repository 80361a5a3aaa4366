abbrev nvc : List Nat := [24, 25, 26, 109, 110, 111]
set_option maxRecDepth 100000 in
theorem s_nhear {Γ : AMG} {Q : QQ} {d : Nat} {x2 x3 : Int32} {a b s : Int} {I : II} {Lg : LJ} {R : RR} {gc : Nat → Nat} {t : NT} {ks : KS} (hc : CNtAt I t ks) (h1 : I 30 0 0 = zI a) (h2 : x2 = zI b) (h3 : x3 = zI s) (hs0 : 0 < s) (hs1 : s < 1000000)
    (h : ∀ I' : II, FrI (V0 nvc) I I' → CNtAt I' (hearT t s) (hearK ks (a, b, s)) → Q none I' Lg R (GM gc)) : am_Sp Γ d 0 0 mX6_hear [vR 6 0, vI x2, vI x3] I Lg R (GM gc) Q := by
  obtain ⟨c1, c2, c3, c4, c5, c6, c7, c8⟩ := hc
  have hkt : (I 24 0 0).toInt = ks.length := by rw [c6, zI_toInt (by omega) (by omega)]
  refine am_runN vX6_hear 60 _ rfl rfl rfl rfl ?_
  refine And.intro (fun c => ?_) (fun c => ?_)
  · refine fun y1 ey1 I1 e1 y2 ey2 I2 e2 => ?_
    have ff : FrI (V0 [25, 26]) I I2 := by rw [e2, e1]; exact (FrI.rf.up rfl).up rfl
    have n2 : I2 24 0 0 = zI ks.length := by rw [ff _ _ rfl]; exact c6
    have hk2 : (I2 24 0 0).toInt = ks.length := by rw [n2, zI_toInt (by omega) (by omega)]
    have t1 : I2 25 0 0 = (hearT t s).2.2.2.1 := by rw [e2, up3_v _ (by decide), e1, up3_s, ey1, c4]; rfl
    have t2 : I2 26 0 0 = (hearT t s).2.2.2.2 := by rw [e2, up3_s, ey2, e1, up3_v _ (by decide), c5, h3]; rfl
    refine And.intro (fun c2' => ?_) (fun c2' => ?_)
    · omega
    refine And.intro (fun c3' => ?_) (fun c3' => ?_)
    · rw [hk2, zI_toInt (by omega) (by omega)] at c3'
      have hh : hearK ks (a, b, s) = ks := by unfold hearK; rw [if_neg (by omega)]
      exact h I2 (ff.mono (fun v i h => V0_sub (by decide) h)) ⟨by rw [ff _ _ rfl]; exact c1, by rw [ff _ _ rfl]; exact c2, by rw [ff _ _ rfl]; exact c3, t1, t2, by rw [hh]; exact n2, by rw [hh]; exact c7, by rw [hh]; exact c8.frl ff rfl rfl rfl⟩
    · rw [hk2, zI_toInt (by omega) (by omega)] at c3'
      have hh : hearK ks (a, b, s) = ks ++ [(a, b, s)] := by unfold hearK; rw [if_pos (by omega)]
      refine And.intro ⟨by omega, by omega⟩ ?_
      refine fun z1 ez1 I3 e3 => ?_
      have n3 : I3 24 0 0 = I2 24 0 0 := by rw [e3, up3_v _ (by decide)]
      refine And.intro ⟨by rw [n3]; omega, by rw [n3]; omega⟩ ?_
      refine fun z2 ez2 I4 e4 => ?_
      have n4 : I4 24 0 0 = I2 24 0 0 := by rw [e4, up3_v _ (by decide), n3]
      refine And.intro ⟨by rw [n4]; omega, by rw [n4]; omega⟩ ?_
      refine fun z3 ez3 I5 e5 z4 ez4 I6 e6 => ?_
      have n5 : I5 24 0 0 = I2 24 0 0 := by rw [e5, up3_v _ (by decide), n4]
      rw [hk2, Int.toNat_natCast] at e3
      rw [n3, hk2, Int.toNat_natCast] at e4
      rw [n4, hk2, Int.toNat_natCast] at e5
      have hnow : I2 30 0 0 = zI a := by rw [ff _ _ rfl]; exact h1
      have f6 : FrI (V0 nvc) I2 I6 := by rw [e6, e5, e4, e3]; exact (((FrI.rf.up rfl).up rfl).up rfl).up rfl
      have g6 : FrI (V0 nvc) I I6 := (ff.mono (fun v i h => V0_sub (by decide) h)).tr f6
      refine h I6 g6 ⟨by rw [g6 _ _ rfl]; exact c1, by rw [g6 _ _ rfl]; exact c2, by rw [g6 _ _ rfl]; exact c3, ?_, ?_, ?_, hearK_len c7, ?_⟩
      · rw [e6, up3_v _ (by decide), e5, up3_v _ (by decide), e4, up3_v _ (by decide), e3, up3_v _ (by decide)]; exact t1
      · rw [e6, up3_v _ (by decide), e5, up3_v _ (by decide), e4, up3_v _ (by decide), e3, up3_v _ (by decide)]; exact t2
      · rw [e6, up3_s, ez4, n5, n2, zI_add, hh, List.length_append]; rfl
      · rw [hh]
        refine (c8.frl ff rfl rfl rfl).app (fun k => ?_) (fun k => ?_) (fun k => ?_)
        · simp [e6, e5, e4, e3, up3_a, ez1, hnow]
        · simp [e6, e5, e4, e3, up3_a, ez2, h2]
        · simp [e6, e5, e4, e3, up3_a, ez3, h3]
  · rw [h3, zI_toInt (by omega) (by omega)] at c
    omega
