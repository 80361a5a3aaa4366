/-! The class opens times. -/
set_option maxRecDepth 100000 in
theorem s_readTimes {Γ : AMG} {Q : QQ} {d : Nat} {I : II} {Lg : LJ} {R : RR} {gc : Nat → Nat} {sz : Nat} {bs : Nat → Int} {l : List MC} {t : TK} {P : PP} (hW : SWok Γ) (hK : KWok Γ) (hb : BSsok sz bs) (hx : TapeAt I sz bs) (ht : TOK sz bs t) (hm : CTk I t) (ht1 : t.1 = 1) (hf : I 37 0 0 = zI 0) (hP : CPs I R sz bs P) (hok : PPok l P)
    (hn4 : P.2.2.2.2.2.length = 4 → ∀ (I' : II), FrI VRD I I' → CFl I' (3, t.st) → Q none I' Lg R (GM gc))
    (hn : P.2.2.2.2.2.length ≠ 4 → ∀ f : FLT, timesA sz bs t.en = .inr f → ∀ (I' : II), FrI VRD I I' → CFl I' f → (1 ≤ f.1 ∧ f.1 ≤ 4) → Q none I' Lg R (GM gc))
    (hy : P.2.2.2.2.2.length ≠ 4 → ∀ (p' : Nat) (m ev : Int), timesA sz bs t.en = .inl (p', m, ev) → ∀ (I' : II), FrI VRD I I' → I' 37 0 0 = zI 0 → I' 41 0 0 = zI p' → CPs I' R sz bs (withL P p' (P.2.2.2.2.1, (m, ev, []) :: P.2.2.2.2.2)) → Q none I' Lg R (GM gc)) :
    am_Sp Γ (d + 7) 0 0 mX9_readTimes [vR 9 0, vR 10 0] I Lg R (GM gc) Q := by
  have hsz := hb.1
  have hc8 := curI_le hok
  have h4 := hok.2.2.1
  have hot : (I 36 0 0).toInt = P.2.2.2.2.2.length := by rw [hP.2.2.1, zI_toInt (by omega) (by omega)]
  have hen := (ht.ok hb).2.1
  unfold timesA at hn hy
  have k15 : P.2.2.2.2.2.length = 4 → am_J Γ mX9_readTimes Q (d + 7) 0 0 15 [some (vR 9 0), some (vR 10 0), none, none] [] I Lg R (GM gc) := by
    intro h44
    refine am_goN vX9_readTimes 10 ?_
    exact s_failT (t := t) (k := 3) hf rfl hm.2.1 (fun I5 f5 m5 => hn4 h44 I5 (V0_rd f5 (by decide)) m5)
  have kF51 : ∀ (f : FLT) (I2 : II) (x3 : Int32) (L4 : Option AV), (∀ (I' : II), FrI VRD I I' → CFl I' f → (1 ≤ f.1 ∧ f.1 ≤ 4) → Q none I' Lg R (GM gc)) → FrI VRD I I2 → CFl I2 f → (1 ≤ f.1 ∧ f.1 ≤ 4) → am_J Γ mX9_readTimes Q (d + 7) 0 0 51 [some (vR 9 0), some (vR 10 0), some (vI x3), L4] [] I2 Lg R (GM gc) := by
    intro f I2 x3 L4 hq f2 m2 hf4
    refine am_goN vX9_readTimes 10 ?_
    exact And.intro (fun _ => hq I2 f2 m2 hf4) (fun c => absurd c (m2.ne hf4))
  have kF41 : ∀ (f : FLT) (I2 : II) (x3 : Int32) (L4 : Option AV), (∀ (I' : II), FrI VRD I I' → CFl I' f → (1 ≤ f.1 ∧ f.1 ≤ 4) → Q none I' Lg R (GM gc)) → FrI VRD I I2 → CFl I2 f → (1 ≤ f.1 ∧ f.1 ≤ 4) → am_J Γ mX9_readTimes Q (d + 7) 0 0 41 [some (vR 9 0), some (vR 10 0), some (vI x3), L4] [] I2 Lg R (GM gc) := by
    intro f I2 x3 L4 hq f2 m2 hf4
    refine am_goN vX9_readTimes 6 ?_
    refine s_readNumberF (m2.ne hf4) ?_
    refine fun x5 ex5 => ?_
    exact kF51 f I2 x3 _ hq f2 m2 hf4
  refine am_runN vX9_readTimes 3 _ rfl rfl rfl rfl ?_
  refine And.intro (fun c => ?_) (fun c => ?_)
  · rw [hot] at c
    omega
  refine am_goN vX9_readTimes 4 ?_
  refine And.intro (fun c => ?_) (fun c => ?_)
  · rw [hot, zI_toInt (by omega) (by omega)] at c
    have hn := hn (by omega)
    have hy := hy (by omega)
    have hat := hm.at9 (Or.inl ht1)
    refine am_goN vX9_readTimes 6 ?_
    refine s_readNumber (a := 1) (b := 20) hb hx hat hen hf rfl rfl (by omega) (by omega) (fun he I1 f1 c1 => ?_) (fun f he x I1 f1 m1 => ?_)
    · rw [he] at hn hy
      dsimp only at hn hy
      obtain ⟨z1, z2, z3⟩ := eNum_k he
      have g1 := tok_gt hb hen (Or.inr (Or.inl z1))
      have f1' : FrI VRD I I1 := V0_rd f1 (by decide)
      have hf1 : I1 37 0 0 = zI 0 := by rw [f1 _ _ rfl]; exact hf
      have tx1 : TapeAt I1 sz bs := hx.fr f1 rfl rfl
      have P1 : CPs I1 R sz bs P := hP.fr f1 (by decide) (by decide)
      generalize tokA sz bs t.en = t1 at *
      refine fun x3 ex3 => ?_
      refine am_goN vX9_readTimes 2 ?_
      refine ar_ldcS (q := 2) (tx := "every") (fun U hU => (hK U hU).2.2.2.2.2.2.2) dl_X9_readTimes_36 ?_
      refine am_goN vX9_readTimes 1 ?_
      refine s_readWord (q := 2) hW (by decide) hb tx1 (c1.at9 (Or.inr (Or.inl z1))) g1.2 hf1 (fun he2 I2 f2 c2 => ?_) (fun f he2 I2 f2 m2 => ?_)
      · rw [show eWord bs (tokA sz bs t1.en) kEvery = none from he2] at hn hy
        dsimp only at hn hy
        have w2 := eWord_k he2
        have g2 := tok_gt hb g1.2 (Or.inl w2.1)
        have f2' : FrI VRD I I2 := f1'.tr (V0_rd f2 (by decide))
        have hf2 : I2 37 0 0 = zI 0 := by rw [f2 _ _ rfl]; exact hf1
        have tx2 : TapeAt I2 sz bs := tx1.fr f2 rfl rfl
        have P2 : CPs I2 R sz bs P := P1.fr f2 (by decide) (by decide)
        generalize tokA sz bs t1.en = t2 at *
        refine am_goN vX9_readTimes 6 ?_
        refine s_readNumber (a := 1) (b := 2000) hb tx2 (c2.at9 (Or.inl w2.1)) g2.2 hf2 rfl rfl (by omega) (by omega) (fun he3 I3 f3 c3 => ?_) (fun f he3 x I3 f3 m3 => ?_)
        · rw [he3] at hn hy
          dsimp only at hn hy
          obtain ⟨w31, w32, w33⟩ := eNum_k he3
          have f3' : FrI VRD I I3 := f2'.tr (V0_rd f3 (by decide))
          have hf3 : I3 37 0 0 = zI 0 := by rw [f3 _ _ rfl]; exact hf2
          have P3 : CPs I3 R sz bs P := P2.fr f3 (by decide) (by decide)
          generalize tokA sz bs t2.en = t3 at *
          refine fun x4 ex4 => ?_
          have ho3 : (I3 36 0 0).toInt = P.2.2.2.2.2.length := by rw [P3.2.2.1, zI_toInt (by omega) (by omega)]
          have ho3n : (I3 36 0 0).toInt.toNat = P.2.2.2.2.2.length := by omega
          obtain ⟨q1, q2, q3, q4, q5, q6, q7, q8⟩ := id P3
          refine am_goN vX9_readTimes 6 ?_
          refine And.intro (fun c => ?_) (fun _ => ?_)
          · rw [hf3] at c
            exact absurd (zI_toInt (a := 0) (by omega) (by omega)) c
          refine am_goN vX9_readTimes 3 ?_
          refine And.intro (fun c => ?_) (fun b hbb => ?_)
          · rw [q1] at c; cases c
          rw [q1] at hbb
          have hbb := Option.some.inj hbb
          subst hbb
          refine am_goN vX9_readTimes 2 ?_
          refine And.intro ⟨by omega, by omega⟩ ?_
          rw [ho3n]
          refine fun y1 ey1 I4 e4 => ?_
          have ho4n : (I4 36 0 0).toInt.toNat = P.2.2.2.2.2.length := by rw [e4, up3_v _ (by decide)]; exact ho3n
          have ho4 : (I4 36 0 0).toInt = P.2.2.2.2.2.length := by rw [e4, up3_v _ (by decide)]; exact ho3
          refine am_goN vX9_readTimes 6 ?_
          refine And.intro ⟨by omega, by omega⟩ ?_
          rw [ho4n]
          refine fun y2 ey2 I5 e5 => ?_
          have ho5n : (I5 36 0 0).toInt.toNat = P.2.2.2.2.2.length := by rw [e5, up3_v _ (by decide)]; exact ho4n
          have ho5 : (I5 36 0 0).toInt = P.2.2.2.2.2.length := by rw [e5, up3_v _ (by decide)]; exact ho4
          refine am_goN vX9_readTimes 6 ?_
          refine And.intro ⟨by omega, by omega⟩ ?_
          rw [ho5n]
          refine fun y3 ey3 I6 e6 => ?_
          refine am_goN vX9_readTimes 20 ?_
          refine fun y4 ey4 I7 e7 => ?_
          have f7 : FrI (V0 [120, 121, 122, 36]) I3 I7 := by
            rw [e7, e6, e5, e4]
            exact (((FrI.rf.up rfl).up rfl).up rfl).up rfl
          have old : ∀ i, i < P.2.2.2.2.2.length → ∀ v ∈ [120, 121, 122], I7 v 0 i = I3 v 0 i := by
            intro i hi v hv
            have hne : i ≠ P.2.2.2.2.2.length := by omega
            have h0 : v ≠ 36 := by
              intro q
              rw [q] at hv
              revert hv
              decide
            rw [e7, up3_v _ h0, e6, up3_j _ hne, e5, up3_j _ hne, e4, up3_j _ hne]
          have hfrm : ∀ fr : List FRM, fr.length ≤ P.2.2.2.2.2.length → CFrm I3 P.2.2.2.2.1 fr → CFrm I7 P.2.2.2.2.1 fr := by
            intro fr
            induction fr with
            | nil => exact fun _ _ => trivial
            | cons f r ih =>
              intro hl h
              have hl : r.length + 1 ≤ P.2.2.2.2.2.length := hl
              exact ⟨by rw [old _ (by omega) _ (by decide)]; exact h.1, by rw [old _ (by omega) _ (by decide)]; exact h.2.1, by rw [old _ (by omega) _ (by decide)]; exact h.2.2.1, ih (by omega) h.2.2.2⟩
          have hpv : ∀ i, ∀ v ∈ pvars, V0 [120, 121, 122, 36] v i = false := fun q v hv => V0_outI (by decide) v hv q
          refine hy _ _ _ rfl I7 (f3'.tr (V0_rd f7 (by decide))) (by rw [f7 _ _ rfl]; exact hf3) (by rw [f7 _ _ rfl]; exact c3.at9 (Or.inr (Or.inl w31))) ?_
          refine P3.set f7 (by decide) (fun i _ => hpv i) ?_ ?_ ⟨?_, ?_, ?_, hfrm _ (Nat.le_refl _) q6⟩
          · rw [e7, up3_s, ey4, e6, up3_v _ (by decide), e5, up3_v _ (by decide), e4, up3_v _ (by decide), q3, zI_add]
            rfl
          · show PlanAt I7 (curI P) (capL (totF P.2.2.2.2.1 P.2.2.2.2.2 ++ []))
            rw [List.append_nil]
            exact q4.fr f7 (hpv _)
          · rw [e7, up3_v _ (by decide), e6, up3_v _ (by decide), e5, up3_v _ (by decide), e4, up3_s, ey1, q4.1, capL_len]
          · rw [e7, up3_v _ (by decide), e6, up3_v _ (by decide), e5, up3_s, ey2]
            exact ex3
          · rw [e7, up3_v _ (by decide), e6, up3_s, ey3]
            exact ex4
        · rw [he3] at hn
          refine fun x4 ex4 => ?_
          exact kF51 f I3 _ _ (hn f rfl) (f2'.tr (V0_rd f3 (by decide))) m3 (eNum_f he3)
      · rw [show eWord bs (tokA sz bs t1.en) kEvery = some f from he2] at hn
        obtain ⟨e2, -⟩ := eWord_1 he2
        exact kF41 f I2 _ _ (hn f rfl) (f1'.tr (V0_rd f2 (by decide))) m2 (by rw [e2]; exact ⟨by show (1 : Int) ≤ 1; omega, by show (1 : Int) ≤ 4; omega⟩)
    · rw [he] at hn
      refine fun x3 ex3 => ?_
      refine am_goN vX9_readTimes 2 ?_
      refine ar_ldcS (q := 2) (tx := "every") (fun U hU => (hK U hU).2.2.2.2.2.2.2) dl_X9_readTimes_36 ?_
      refine am_goN vX9_readTimes 1 ?_
      refine s_readWordF (m1.ne (eNum_f he)) ?_
      exact kF41 f I1 _ _ (hn f rfl) (V0_rd f1 (by decide)) m1 (eNum_f he)
  · rw [hot, zI_toInt (by omega) (by omega)] at c
    exact k15 (by omega)
