/-! A sound is heard: both sides. -/
def hearK (ks : KS) (e : Int × Int × Int) : KS := if ks.length < 300 then ks ++ [e] else ks
def hearT (t : NT) (s : Int) : NT := (t.1, t.2.1, t.2.2.1, t.2.2.2.1 + zI 1, t.2.2.2.2 + zI s)
theorem hearK_len {ks : KS} {e : Int × Int × Int} (h : ks.length ≤ 300) : (hearK ks e).length ≤ 300 := by
  unfold hearK
  split
  · rw [List.length_append]; simp; omega
  · exact h
abbrev nvm : List Nat := [74, 78, 79, 158, 159, 160]
set_option maxRecDepth 100000 in
theorem s_mhear {Γ : AMG} {Q : QQ} {d : Nat} {x1 x2 x3 : Int32} {a b s : Int} {I : II} {Lg : LJ} {R : RR} {gc : Nat → Nat} {t : NT} {ks : KS} (hc : MNtAt I t ks) (h1 : x1 = zI a) (h2 : x2 = zI b) (h3 : x3 = zI s)
    (h : ∀ I' : II, FrI (V0 nvm) I I' → MNtAt I' (hearT t s) (hearK ks (a, b, s)) → Q none I' Lg R (GM gc)) : am_Sp Γ d 0 0 mX12_hear [vR 12 0, vI x1, vI x2, vI x3] I Lg R (GM gc) Q := by
  obtain ⟨c1, c2, c3, c4, c5, c6, c7, c8⟩ := hc
  have hkt : (I 74 0 0).toInt = ks.length := by rw [c6, zI_toInt (by omega) (by omega)]
  refine am_runN vX12_hear 60 _ rfl rfl rfl rfl ?_
  refine And.intro (fun c => ?_) (fun c => ?_)
  · rw [hkt, zI_toInt (by omega) (by omega)] at c
    have hh : hearK ks (a, b, s) = ks := by unfold hearK; rw [if_neg (by omega)]
    refine fun y1 ey1 I1 e1 y2 ey2 I2 e2 => ?_
    have ff : FrI (V0 [78, 79]) I I2 := by rw [e2, e1]; exact (FrI.rf.up rfl).up rfl
    refine h I2 (ff.mono (fun v i h => V0_sub (by decide) h)) ⟨by rw [ff _ _ rfl]; exact c1, by rw [ff _ _ rfl]; exact c2, by rw [ff _ _ rfl]; exact c3, ?_, ?_, by rw [ff _ _ rfl, hh]; exact c6, by rw [hh]; exact c7, by rw [hh]; exact c8.frl ff rfl rfl rfl⟩
    · rw [e2, up3_v _ (by decide), e1, up3_s, ey1, c4]; rfl
    · rw [e2, up3_s, ey2, e1, up3_v _ (by decide), c5, h3]; rfl
  · rw [hkt, zI_toInt (by omega) (by omega)] at c
    have hh : hearK ks (a, b, s) = ks ++ [(a, b, s)] := by unfold hearK; rw [if_pos (by omega)]
    refine And.intro ⟨by omega, by omega⟩ ?_
    refine fun z1 ez1 I1 e1 => ?_
    have n1 : I1 74 0 0 = I 74 0 0 := by rw [e1, up3_v _ (by decide)]
    refine And.intro ⟨by rw [n1]; omega, by rw [n1]; omega⟩ ?_
    refine fun z2 ez2 I2 e2 => ?_
    have n2 : I2 74 0 0 = I 74 0 0 := by rw [e2, up3_v _ (by decide), n1]
    refine And.intro ⟨by rw [n2]; omega, by rw [n2]; omega⟩ ?_
    refine fun z3 ez3 I3 e3 z4 ez4 I4 e4 y1 ey1 I5 e5 y2 ey2 I6 e6 => ?_
    have n3 : I3 74 0 0 = I 74 0 0 := by rw [e3, up3_v _ (by decide), n2]
    rw [hkt, Int.toNat_natCast] at e1
    rw [n1, hkt, Int.toNat_natCast] at e2
    rw [n2, hkt, Int.toNat_natCast] at e3
    have ff : FrI (V0 nvm) I I6 := by rw [e6, e5, e4, e3, e2, e1]; exact (((((FrI.rf.up rfl).up rfl).up rfl).up rfl).up rfl).up rfl
    refine h I6 ff ⟨by rw [ff _ _ rfl]; exact c1, by rw [ff _ _ rfl]; exact c2, by rw [ff _ _ rfl]; exact c3, ?_, ?_, ?_, hearK_len c7, ?_⟩
    · rw [e6, up3_v _ (by decide), e5, up3_s, ey1, e4, up3_v _ (by decide), e3, up3_v _ (by decide), e2, up3_v _ (by decide), e1, up3_v _ (by decide), c4]; rfl
    · rw [e6, up3_s, ey2, e5, up3_v _ (by decide), e4, up3_v _ (by decide), e3, up3_v _ (by decide), e2, up3_v _ (by decide), e1, up3_v _ (by decide), c5, h3]; rfl
    · rw [e6, up3_v _ (by decide), e5, up3_v _ (by decide), e4, up3_s, ez4, n3, c6, zI_add, hh, List.length_append]; rfl
    · rw [hh]
      refine c8.app (fun k => ?_) (fun k => ?_) (fun k => ?_)
      · simp [e6, e5, e4, e3, e2, e1, up3_a, ez1, h1]
      · simp [e6, e5, e4, e3, e2, e1, up3_a, ez2, h2]
      · simp [e6, e5, e4, e3, e2, e1, up3_a, ez3, h3]
