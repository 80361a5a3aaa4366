/-! board: both sides. -/
def bdOf (l s r d t : Int32) : BD := (64 * l.toInt, s.toInt, r.toInt, d.toInt, t.toInt)
def bdTold (l s r d t : Int32) : Prop := (1 ≤ l.toInt ∧ l.toInt ≤ 40) ∧ (-9 ≤ s.toInt ∧ s.toInt ≤ 30) ∧ (0 ≤ r.toInt ∧ r.toInt ≤ 15) ∧ (0 ≤ d.toInt ∧ d.toInt ≤ 9) ∧ (0 ≤ t.toInt ∧ t.toInt ≤ 8)
theorem bdOf_ok {l s r d t : Int32} (h : bdTold l s r d t) : BDok (bdOf l s r d t) := by
  obtain ⟨h1, h2, h3, h4, h5⟩ := h
  unfold BDok bdOf
  dsimp only
  omega
theorem BDsok.app {bd : List BD} {x : BD} (h : BDsok bd) (hl : bd.length < 16) (hx : BDok x) : BDsok (bd ++ [x]) := by
  refine ⟨by rw [List.length_append]; exact hl, fun k y hk => ?_⟩
  rcases app_get hk with ⟨_, rfl⟩ | ⟨_, hk⟩
  · exact hx
  · exact h.2 k y hk
abbrev bov : List Nat := [6, 7, 8, 9, 10]
set_option maxRecDepth 100000 in
theorem s_binit {Γ : AMG} {Q : QQ} {d b : Nat} {x1 x2 x3 x4 x5 : Int32} {I : II} {Lg : LJ} {R : RR} {G : GG} (h1 : 1 ≤ x1.toInt) (h2 : x1.toInt ≤ 40)
    (h : ∀ I' : II, FrI (V1 bov b) I I' → BoardAt I' b (bdOf x1 x2 x3 x4 x5) → Q none I' Lg R G) : am_Sp Γ (d + 1) 0 0 mX1_init [vR 1 b, vI x1, vI x2, vI x3, vI x4, vI x5] I Lg R G Q := by
  refine am_runN vX1_init 60 _ rfl rfl rfl rfl ?_
  refine fun y1 ey1 I1 e1 y2 ey2 I2 e2 y3 ey3 I3 e3 y4 ey4 I4 e4 y5 ey5 I5 e5 => ?_
  refine h I5 ?_ ⟨?_, ?_, ?_, ?_, ?_⟩
  · rw [e5, e4, e3, e2, e1]
    exact ((((FrI.rf.up (V1_in rfl)).up (V1_in rfl)).up (V1_in rfl)).up (V1_in rfl)).up (V1_in rfl)
  · rw [e5, up3_v _ (by decide), e4, up3_v _ (by decide), e3, up3_v _ (by decide), e2, up3_v _ (by decide), e1, up3_s, ey1]
    obtain ⟨z, hz, hz1, hz2⟩ := zI_ex x1
    rw [hz, zI_mul]
    unfold bdOf
    dsimp only
    rw [zI_toInt hz1 hz2]
  · rw [e5, up3_v _ (by decide), e4, up3_v _ (by decide), e3, up3_v _ (by decide), e2, up3_s, ey2]; exact (zI_self _).symm
  · rw [e5, up3_v _ (by decide), e4, up3_v _ (by decide), e3, up3_s, ey3]; exact (zI_self _).symm
  · rw [e5, up3_v _ (by decide), e4, up3_s, ey4]; exact (zI_self _).symm
  · rw [e5, up3_s, ey5]; exact (zI_self _).symm
theorem BoardAt.ne {I I' : II} {b q : Nat} {x : BD} (h : BoardAt I b x) (hf : FrI (V1 bov q) I I') (hne : b ≠ q) : BoardAt I' b x := by
  have hq : ∀ v, V1 bov q v b = false := fun v => by unfold V1; rw [beq_eq_false_iff_ne.mpr hne, Bool.and_false]
  obtain ⟨h1, h2, h3, h4, h5⟩ := h
  exact ⟨by rw [hf _ _ (hq _)]; exact h1, by rw [hf _ _ (hq _)]; exact h2, by rw [hf _ _ (hq _)]; exact h3, by rw [hf _ _ (hq _)]; exact h4, by rw [hf _ _ (hq _)]; exact h5⟩
def VBd (b : Nat) : Nat → Nat → Bool := fun v i => V0 [46] v i || V1 bov b v i
set_option maxRecDepth 100000 in
theorem s_board {Γ : AMG} {Q : QQ} {d : Nat} {x1 x2 x3 x4 x5 : Int32} {I : II} {Lg : LJ} {R : RR} {gc : Nat → Nat} {bd : List BD} (hbd : BDsok bd) (hs : StockAt I R bd)
    (hn : (bd.length = 16 ∨ ¬ bdTold x1 x2 x3 x4 x5) → Q (some (vI (zI (-1)))) I Lg R (GM gc))
    (hy : bd.length < 16 → bdTold x1 x2 x3 x4 x5 → ∀ I' : II, FrI (VBd (gc 1)) I I' → (∀ (b : Nat) (x : BD), BDok x → BoardAt I b x → BoardAt I' b x) → StockAt I' (up3 R 2 0 bd.length (some (gc 1))) (bd ++ [bdOf x1 x2 x3 x4 x5]) → Q (some (vI (zI bd.length))) I' Lg (up3 R 2 0 bd.length (some (gc 1))) (GM (up1 gc 1 (gc 1 + 1)))) :
    am_Sp Γ (d + 2) 1 5 mX11_board [vR 11 0, vI x1, vI x2, vI x3, vI x4, vI x5] I Lg R (GM gc) Q := by
  have hl := hbd.1
  have hnb := hs.1
  have hbt : (I 46 0 0).toInt = bd.length := by rw [hnb, zI_toInt (by omega) (by omega)]
  -- behind 'told'
  have k60 : ∀ (L7 : Option AV) (z : Int32), ((z = zI 1 ∧ bdTold x1 x2 x3 x4 x5) ∨ (z = zI 0 ∧ ¬ bdTold x1 x2 x3 x4 x5)) → am_J Γ mX11_board Q (d + 2) 1 5 60 [some (vR 11 0), some (vI x1), some (vI x2), some (vI x3), some (vI x4), some (vI x5), some (vI z)] [] I Lg R (GM gc) := by
    intro L7 z hz
    refine am_goN vX11_board 60 ?_
    refine And.intro (fun c => ?_) (fun c => ?_)
    · rcases hz with ⟨hz, -⟩ | ⟨-, hz⟩
      · rw [hz, zI_toInt (by omega) (by omega)] at c
        omega
      · exact hn (Or.inr hz)
    have hz1 : bdTold x1 x2 x3 x4 x5 := by
      rcases hz with ⟨-, hz⟩ | ⟨hz, -⟩
      · exact hz
      · rw [hz, zI_toInt (by omega) (by omega)] at c
        omega
    refine And.intro (fun c2 => ?_) (fun c2 => ?_)
    · rw [hbt] at c2
      omega
    refine And.intro (fun c3 => ?_) (fun c3 => ?_)
    · rw [hbt, zI_toInt (by omega) (by omega)] at c3
      intro hz0
      refine s_binit hz1.1.1 hz1.1.2 (fun I1 f1 b1 => ?_)
      have hne : ∀ (b : Nat) (x : BD), BDok x → BoardAt I b x → b ≠ gc 1 := by
        intro b x hx hb hq
        have h0 := hz0.1 6 0 rfl
        rw [show (GM gc).2 1 = gc 1 from rfl, ← hq, hb.1] at h0
        have h1 := congrArg Int32.toInt h0
        rw [zI_toInt (by have := hx.1; omega) (by have := hx.2.1; omega)] at h1
        have : (0 : Int32).toInt = 0 := by decide
        have := hx.1
        omega
      have n1 : I1 46 0 0 = zI bd.length := by rw [f1 _ _ rfl]; exact hnb
      have nt1 : (I1 46 0 0).toInt = bd.length := by rw [n1, zI_toInt (by omega) (by omega)]
      have nt0 : (I 46 0 0).toInt.toNat = bd.length := by rw [hbt]; omega
      refine And.intro ⟨by omega, by omega⟩ (And.intro rfl ?_)
      refine fun y ey I2 e2 => ?_
      have f2 : FrI (V0 [46]) I1 I2 := by rw [e2]; exact FrI.rf.up rfl
      have f12 : FrI (VBd (gc 1)) I I2 := FrI.tr (f1.mono (fun v i q => by unfold VBd at q; exact (Bool.or_eq_false_iff.mp q).2)) (f2.mono (fun v i q => by unfold VBd at q; exact (Bool.or_eq_false_iff.mp q).1))
      have hkeep : ∀ (b : Nat) (x : BD), BDok x → BoardAt I b x → BoardAt I2 b x := fun b x hx hb => ((BoardAt.ne hb f1 (hne b x hx hb)).fb f2 (V0_outI (by decide)))
      have fin := hy (by omega) hz1 I2 f12 hkeep ⟨?_, fun k x hk => ?_⟩
      · rw [nt0]
        have e9 : I2 46 0 0 - zI 1 = zI bd.length := by
          rw [e2, up3_s, ey, n1, zI_add, zI_sub]
          congr 1
          omega
        rw [← e9] at fin
        exact fin
      · rw [e2, up3_s, ey, n1, zI_add, List.length_append]
        rfl
      · rcases app_get hk with ⟨hk1, hk2⟩ | ⟨hk1, hk2⟩
        · subst hk1
          subst hk2
          exact ⟨gc 1, up3_s _ _ _ _ _, b1.fb f2 (V0_outI (by decide))⟩
        · obtain ⟨bo, hbo, hB⟩ := hs.2 k x hk2
          exact ⟨bo, by rw [up3_j _ hk1]; exact hbo, hkeep bo x (hbd.2 k x hk2) hB⟩
    · rw [hbt, zI_toInt (by omega) (by omega)] at c3
      exact hn (Or.inl (by omega))
  have k57 : ¬ bdTold x1 x2 x3 x4 x5 → am_J Γ mX11_board Q (d + 2) 1 5 57 [some (vR 11 0), some (vI x1), some (vI x2), some (vI x3), some (vI x4), some (vI x5), none] [] I Lg R (GM gc) := by
    intro hz
    refine am_goN vX11_board 2 ?_
    exact fun z ez => k60 none z (Or.inr ⟨ez, hz⟩)
  refine am_runN vX11_board 5 _ rfl rfl rfl rfl ?_
  refine s_within (fun a1 a2 => ?_) (fun a1 => ?_)
  · rw [zI_toInt (by omega) (by omega)] at a1 a2
    refine And.intro (fun c => ?_) (fun _ => ?_)
    · rw [zI_toInt (by omega) (by omega)] at c
      omega
    refine am_goN vX11_board 5 ?_
    refine s_within (fun b1 b2 => ?_) (fun b1 => ?_)
    · rw [zI_toInt (by omega) (by omega)] at b1 b2
      refine And.intro (fun c => ?_) (fun _ => ?_)
      · rw [zI_toInt (by omega) (by omega)] at c
        omega
      refine am_goN vX11_board 5 ?_
      refine s_within (fun c1 c2 => ?_) (fun c1 => ?_)
      · rw [zI_toInt (by omega) (by omega)] at c1 c2
        refine And.intro (fun c => ?_) (fun _ => ?_)
        · rw [zI_toInt (by omega) (by omega)] at c
          omega
        refine am_goN vX11_board 5 ?_
        refine s_within (fun d1 d2 => ?_) (fun d1 => ?_)
        · rw [zI_toInt (by omega) (by omega)] at d1 d2
          refine And.intro (fun c => ?_) (fun _ => ?_)
          · rw [zI_toInt (by omega) (by omega)] at c
            omega
          refine am_goN vX11_board 5 ?_
          refine s_within (fun g1 g2 => ?_) (fun g1 => ?_)
          · rw [zI_toInt (by omega) (by omega)] at g1 g2
            refine And.intro (fun c => ?_) (fun _ => ?_)
            · rw [zI_toInt (by omega) (by omega)] at c
              omega
            refine am_goN vX11_board 3 ?_
            exact fun z ez => k60 none z (Or.inl ⟨ez, ⟨a1, a2⟩, ⟨b1, b2⟩, ⟨c1, c2⟩, ⟨d1, d2⟩, g1, g2⟩)
          · rw [zI_toInt (by omega) (by omega), zI_toInt (by omega) (by omega)] at g1
            refine And.intro (fun c => ?_) (fun c => ?_)
            · exact k57 (fun z => by unfold bdTold at z; omega)
            · rw [zI_toInt (by omega) (by omega)] at c
              omega
        · rw [zI_toInt (by omega) (by omega), zI_toInt (by omega) (by omega)] at d1
          refine And.intro (fun c => ?_) (fun c => ?_)
          · exact k57 (fun z => by unfold bdTold at z; omega)
          · rw [zI_toInt (by omega) (by omega)] at c
            omega
      · rw [zI_toInt (by omega) (by omega), zI_toInt (by omega) (by omega)] at c1
        refine And.intro (fun c => ?_) (fun c => ?_)
        · exact k57 (fun z => by unfold bdTold at z; omega)
        · rw [zI_toInt (by omega) (by omega)] at c
          omega
    · rw [zI_toInt (by omega) (by omega), zI_toInt (by omega) (by omega)] at b1
      refine And.intro (fun c => ?_) (fun c => ?_)
      · exact k57 (fun z => by unfold bdTold at z; omega)
      · rw [zI_toInt (by omega) (by omega)] at c
        omega
  · rw [zI_toInt (by omega) (by omega), zI_toInt (by omega) (by omega)] at a1
    refine And.intro (fun c => ?_) (fun c => ?_)
    · exact k57 (fun z => by unfold bdTold at z; omega)
    · rw [zI_toInt (by omega) (by omega)] at c
      omega
/-- the stock of the reference -/
def MStockAt (I : II) (bd : List BD) : Prop := I 49 0 0 = zI bd.length ∧ (∀ (k : Nat) (x : BD), bd[k]? = some x → MBoardAt I k x) ∧ ∀ v, bd.length ≤ v → I 126 0 v = zI 0
theorem MStockAt.fr {I I' : II} {P : Nat → Nat → Bool} {bd : List BD} (h : MStockAt I bd) (hf : FrI P I I') (hP : ∀ v ∈ [49, 126, 127, 128, 129, 130], P v 0 = false) : MStockAt I' bd := by
  obtain ⟨h1, h2, h3⟩ := h
  refine ⟨by rw [hf _ _ (hP _ (by decide))]; exact h1, fun k x hk => ?_, fun v hv => by rw [hf _ _ (hP _ (by decide))]; exact h3 v hv⟩
  obtain ⟨⟨len, e1, e2⟩, e3, e4, e5, e6⟩ := h2 k x hk
  refine ⟨⟨len, e1, ?_⟩, ?_, ?_, ?_, ?_⟩ <;> rw [hf _ _ (hP _ (by decide))] <;> assumption
abbrev mbdv : List Nat := [47, 49, 126, 127, 128, 129, 130]
set_option maxRecDepth 100000 in
theorem s_mboard {Γ : AMG} {Q : QQ} {d : Nat} {x1 x2 x3 x4 x5 : Int32} {I : II} {Lg : LJ} {R : RR} {gc : Nat → Nat} {bd : List BD} (hbd : BDsok bd) (hs : MStockAt I bd)
    (hn : (bd.length = 16 ∨ ¬ bdTold x1 x2 x3 x4 x5) → Q (some (vI (zI (-1)))) (up3 I 47 0 0 (zI 0)) Lg R (GM gc))
    (hy : bd.length < 16 → bdTold x1 x2 x3 x4 x5 → ∀ I' : II, FrI (V0 mbdv) I I' → I' 47 0 0 = zI 0 → (∀ (b : Nat) (x : BD), BDok x → MBoardAt I b x → MBoardAt I' b x) → MStockAt I' (bd ++ [bdOf x1 x2 x3 x4 x5]) → Q (some (vI (zI bd.length))) I' Lg R (GM gc)) :
    am_Sp Γ (d + 1) 0 0 mX12_board [vR 12 0, vI x1, vI x2, vI x3, vI x4, vI x5] I Lg R (GM gc) Q := by
  have hl := hbd.1
  obtain ⟨s1, s2, s3⟩ := id hs
  refine am_runN vX12_board 7 _ rfl rfl rfl rfl ?_
  refine fun y0 ey0 I1 e1 => ?_
  subst ey0
  have f1 : FrI (V0 [47]) I I1 := by rw [e1]; exact FrI.rf.up rfl
  rw [← e1] at hn
  have n1 : I1 49 0 0 = zI bd.length := by rw [f1 _ _ rfl]; exact s1
  have nt1 : (I1 49 0 0).toInt = bd.length := by rw [n1, zI_toInt (by omega) (by omega)]
  have nn1 : (I1 49 0 0).toInt.toNat = bd.length := by rw [nt1]; omega
  have k67 : (bd.length = 16 ∨ ¬ bdTold x1 x2 x3 x4 x5) → am_J Γ mX12_board Q (d + 1) 0 0 67 [some (vR 12 0), some (vI x1), some (vI x2), some (vI x3), some (vI x4), some (vI x5)] [] I1 Lg R (GM gc) := by
    intro hz
    refine am_goN vX12_board 5 ?_
    exact hn hz
  refine And.intro (fun c => ?_) (fun c0 => ?_)
  · rw [nt1, zI_toInt (by omega) (by omega)] at c
    exact k67 (Or.inl (by omega))
  rw [nt1, zI_toInt (by omega) (by omega)] at c0
  refine am_goN vX12_board 5 ?_
  refine s_isIn (fun a1 a2 => ?_) (fun a1 => ?_)
  · rw [zI_toInt (by omega) (by omega)] at a1 a2
    refine And.intro (fun c => ?_) (fun _ => ?_)
    · rw [zI_toInt (by omega) (by omega)] at c
      omega
    refine am_goN vX12_board 5 ?_
    refine s_isIn (fun b1 b2 => ?_) (fun b1 => ?_)
    · rw [zI_toInt (by omega) (by omega)] at b1 b2
      refine And.intro (fun c => ?_) (fun _ => ?_)
      · rw [zI_toInt (by omega) (by omega)] at c
        omega
      refine am_goN vX12_board 5 ?_
      refine s_isIn (fun c1 c2 => ?_) (fun c1 => ?_)
      · rw [zI_toInt (by omega) (by omega)] at c1 c2
        refine And.intro (fun c => ?_) (fun _ => ?_)
        · rw [zI_toInt (by omega) (by omega)] at c
          omega
        refine am_goN vX12_board 5 ?_
        refine s_isIn (fun d1 d2 => ?_) (fun d1 => ?_)
        · rw [zI_toInt (by omega) (by omega)] at d1 d2
          refine And.intro (fun c => ?_) (fun _ => ?_)
          · rw [zI_toInt (by omega) (by omega)] at c
            omega
          refine am_goN vX12_board 5 ?_
          refine s_isIn (fun g1 g2 => ?_) (fun g1 => ?_)
          · rw [zI_toInt (by omega) (by omega)] at g1 g2
            have htold : bdTold x1 x2 x3 x4 x5 := ⟨⟨a1, a2⟩, ⟨b1, b2⟩, ⟨c1, c2⟩, ⟨d1, d2⟩, g1, g2⟩
            refine And.intro (fun _ => ?_) (fun c => ?_)
            · refine am_goN vX12_board 60 ?_
              refine And.intro ⟨by omega, by omega⟩ ?_
              rw [nn1]
              refine fun y2 ey2 I2 e2 => ?_
              have q2 : I2 49 0 0 = I1 49 0 0 := by rw [e2, up3_v _ (by decide)]
              refine And.intro ⟨by rw [q2]; omega, by rw [q2]; omega⟩ ?_
              rw [q2, nn1]
              refine fun y3 ey3 I3 e3 => ?_
              have q3 : I3 49 0 0 = I1 49 0 0 := by rw [e3, up3_v _ (by decide), q2]
              refine And.intro ⟨by rw [q3]; omega, by rw [q3]; omega⟩ ?_
              rw [q3, nn1]
              refine fun y4 ey4 I4 e4 => ?_
              have q4 : I4 49 0 0 = I1 49 0 0 := by rw [e4, up3_v _ (by decide), q3]
              refine And.intro ⟨by rw [q4]; omega, by rw [q4]; omega⟩ ?_
              rw [q4, nn1]
              refine fun y5 ey5 I5 e5 => ?_
              have q5 : I5 49 0 0 = I1 49 0 0 := by rw [e5, up3_v _ (by decide), q4]
              refine And.intro ⟨by rw [q5]; omega, by rw [q5]; omega⟩ ?_
              rw [q5, nn1]
              refine fun y6 ey6 I6 e6 => ?_
              have q6 : I6 49 0 0 = I1 49 0 0 := by rw [e6, up3_v _ (by decide), q5]
              refine fun y7 ey7 I7 e7 => ?_
              have f7 : FrI (V0 mbdv) I1 I7 := by
                rw [e7, e6, e5, e4, e3, e2]
                exact (((((FrI.rf.up rfl).up rfl).up rfl).up rfl).up rfl).up rfl
              have r2 : ∀ j, I7 126 0 j = if j = bd.length then x1 else I 126 0 j := fun j => by
                rw [e7, up3_v _ (by decide), e6, up3_v _ (by decide), e5, up3_v _ (by decide), e4, up3_v _ (by decide), e3, up3_v _ (by decide), e2, up3_a, f1 _ _ rfl, ey2]; simp
              have r3 : ∀ j, I7 127 0 j = if j = bd.length then x2 else I 127 0 j := fun j => by
                rw [e7, up3_v _ (by decide), e6, up3_v _ (by decide), e5, up3_v _ (by decide), e4, up3_v _ (by decide), e3, up3_a, e2, up3_v _ (by decide), f1 _ _ rfl, ey3]; simp
              have r4 : ∀ j, I7 128 0 j = if j = bd.length then x3 else I 128 0 j := fun j => by
                rw [e7, up3_v _ (by decide), e6, up3_v _ (by decide), e5, up3_v _ (by decide), e4, up3_a, e3, up3_v _ (by decide), e2, up3_v _ (by decide), f1 _ _ rfl, ey4]; simp
              have r5 : ∀ j, I7 129 0 j = if j = bd.length then x4 else I 129 0 j := fun j => by
                rw [e7, up3_v _ (by decide), e6, up3_v _ (by decide), e5, up3_a, e4, up3_v _ (by decide), e3, up3_v _ (by decide), e2, up3_v _ (by decide), f1 _ _ rfl, ey5]; simp
              have r6 : ∀ j, I7 130 0 j = if j = bd.length then x5 else I 130 0 j := fun j => by
                rw [e7, up3_v _ (by decide), e6, up3_a, e5, up3_v _ (by decide), e4, up3_v _ (by decide), e3, up3_v _ (by decide), e2, up3_v _ (by decide), f1 _ _ rfl, ey6]; simp
              have hkeep : ∀ (b : Nat) (x : BD), BDok x → MBoardAt I b x → MBoardAt I7 b x := by
                intro b x hx hb
                obtain ⟨⟨len, w1, w2⟩, w3, w4, w5, w6⟩ := hb
                have hbl : b ≠ bd.length := by
                  intro q
                  have h9 := s3 b (by omega)
                  rw [w2] at h9
                  have h10 := congrArg Int32.toInt h9
                  have := hx.1
                  have := hx.2.1
                  rw [zI_toInt (by omega) (by omega), zI_toInt (by omega) (by omega)] at h10
                  omega
                exact ⟨⟨len, w1, by rw [r2, if_neg hbl]; exact w2⟩, by rw [r3, if_neg hbl]; exact w3, by rw [r4, if_neg hbl]; exact w4, by rw [r5, if_neg hbl]; exact w5, by rw [r6, if_neg hbl]; exact w6⟩
              have b7 : I7 49 0 0 = zI (bd.length + 1 : Nat) := by
                rw [e7, up3_s, ey7, q6, n1, zI_add]
                congr 1
              have fin := hy (by omega) htold I7 ((f1.mono (fun v i h => V0_sub (by decide) h)).tr f7) (by rw [e7, up3_v _ (by decide), e6, up3_v _ (by decide), e5, up3_v _ (by decide), e4, up3_v _ (by decide), e3, up3_v _ (by decide), e2, up3_v _ (by decide), e1, up3_s]) hkeep ⟨by rw [b7, List.length_append]; rfl, fun k x hk => ?_, fun v hv => ?_⟩
              · have e9 : I7 49 0 0 - zI 1 = zI bd.length := by
                  rw [b7, zI_sub]
                  congr 1
                  omega
                rw [← e9] at fin
                exact fin
              · rcases app_get hk with ⟨hk1, hk2⟩ | ⟨hk1, hk2⟩
                · subst hk1
                  subst hk2
                  exact ⟨⟨x1.toInt, rfl, by rw [r2, if_pos rfl, zI_self]⟩, by rw [r3, if_pos rfl]; exact (zI_self _).symm, by rw [r4, if_pos rfl]; exact (zI_self _).symm, by rw [r5, if_pos rfl]; exact (zI_self _).symm, by rw [r6, if_pos rfl]; exact (zI_self _).symm⟩
                · exact hkeep k x (hbd.2 k x hk2) (s2 k x hk2)
              · rw [List.length_append] at hv
                have hv : bd.length + 1 ≤ v := hv
                rw [r2, if_neg (by omega)]
                exact s3 v (by omega)
            · rw [zI_toInt (by omega) (by omega)] at c
              omega
          · rw [zI_toInt (by omega) (by omega), zI_toInt (by omega) (by omega)] at g1
            refine And.intro (fun c => ?_) (fun c => ?_)
            · rw [zI_toInt (by omega) (by omega)] at c
              omega
            · exact k67 (Or.inr (fun z => by unfold bdTold at z; omega))
        · rw [zI_toInt (by omega) (by omega), zI_toInt (by omega) (by omega)] at d1
          refine And.intro (fun c => ?_) (fun c => ?_)
          · exact k67 (Or.inr (fun z => by unfold bdTold at z; omega))
          · rw [zI_toInt (by omega) (by omega)] at c
            omega
      · rw [zI_toInt (by omega) (by omega), zI_toInt (by omega) (by omega)] at c1
        refine And.intro (fun c => ?_) (fun c => ?_)
        · exact k67 (Or.inr (fun z => by unfold bdTold at z; omega))
        · rw [zI_toInt (by omega) (by omega)] at c
          omega
    · rw [zI_toInt (by omega) (by omega), zI_toInt (by omega) (by omega)] at b1
      refine And.intro (fun c => ?_) (fun c => ?_)
      · exact k67 (Or.inr (fun z => by unfold bdTold at z; omega))
      · rw [zI_toInt (by omega) (by omega)] at c
        omega
  · rw [zI_toInt (by omega) (by omega), zI_toInt (by omega) (by omega)] at a1
    refine And.intro (fun c => ?_) (fun c => ?_)
    · exact k67 (Or.inr (fun z => by unfold bdTold at z; omega))
    · rw [zI_toInt (by omega) (by omega)] at c
      omega
