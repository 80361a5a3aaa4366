/-! The class plays a storm. -/
theorem isNm_w {bs : Nat → Int} {t : TK} (h : isNm bs t) (w : List Int) : isW bs t w ↔ twd bs t = w := ⟨fun q => q.2, fun q => ⟨h.1, q⟩⟩
theorem CPs.nms {I : II} {R : RR} {sz : Nat} {bs : Nat → Int} {P : PP} (h : CPs I R sz bs P) : ∀ (j : Nat) (s : List Int × LST), P.2.1[j]? = some s → NmAt I sz bs j s.1 := fun j s hj => (h.2.2.2.2.2.2.1 j s hj).2
set_option maxRecDepth 100000 in
theorem s_readPlay {Γ : AMG} {Q : QQ} {d : Nat} {I : II} {Lg : LJ} {R : RR} {gc : Nat → Nat} {sz : Nat} {bs : Nat → Int} {l : List MC} {t : TK} {P : PP} (hW : SWok Γ) (hK : KWok Γ) (hb : BSsok sz bs) (hx : TapeAt I sz bs) (ht : TOK sz bs t) (hm : CTk I t) (ht1 : t.1 = 1) (hf : I 37 0 0 = zI 0) (hP : CPs I R sz bs P) (hok : PPok l P)
    (hn : ∀ f : FLT, playA sz bs P.2.1 t.en = .inr f → ∀ (I' : II), FrI VRD I I' → CFl I' f → (1 ≤ f.1 ∧ f.1 ≤ 4) → Q none I' Lg R (GM gc))
    (hy : ∀ (p' : Nat) (es : LST) (lt : Int), playA sz bs P.2.1 t.en = .inl (p', es, lt) → ∀ (I' : II), FrI VRD I I' → I' 37 0 0 = zI 0 → I' 41 0 0 = zI p' → CPs I' R sz bs (withL P p' (addL P.2.2.2.2.1 P.2.2.2.2.2 (es.map (shE lt)))) → Q none I' Lg R (GM gc)) :
    am_Sp Γ (d + 7) 0 0 mX9_readPlay [vR 9 0, vR 10 0] I Lg R (GM gc) Q := by
  have hsz := hb.1
  have hc8 := curI_le hok
  have h8 := hok.1
  have hen : t.en ≤ sz := (ht.ok hb).2.1
  unfold playA at hn hy
  have kF72 : ∀ (f : FLT) (I2 : II) (x2 x3 : Int32) (L4 : Option AV), (∀ (I' : II), FrI VRD I I' → CFl I' f → (1 ≤ f.1 ∧ f.1 ≤ 4) → Q none I' Lg R (GM gc)) → FrI VRD I I2 → CFl I2 f → (1 ≤ f.1 ∧ f.1 ≤ 4) → am_J Γ mX9_readPlay Q (d + 7) 0 0 72 [some (vR 9 0), some (vR 10 0), some (vI x2), some (vI x3), L4] [] I2 Lg R (GM gc) := by
    intro f I2 x2 x3 L4 hq f2 m2 hf4
    refine am_goN vX9_readPlay 3 ?_
    refine And.intro (fun _ => ?_) (fun c => absurd c (m2.ne hf4))
    refine am_goN vX9_readPlay 3 ?_
    exact hq I2 f2 m2 hf4
  have kF65 : ∀ (f : FLT) (I2 : II) (x2 x3 : Int32), (∀ (I' : II), FrI VRD I I' → CFl I' f → (1 ≤ f.1 ∧ f.1 ≤ 4) → Q none I' Lg R (GM gc)) → FrI VRD I I2 → CFl I2 f → (1 ≤ f.1 ∧ f.1 ≤ 4) → am_J Γ mX9_readPlay Q (d + 7) 0 0 65 [some (vR 9 0), some (vR 10 0), some (vI x2), some (vI x3), none] [] I2 Lg R (GM gc) := by
    intro f I2 x2 x3 hq f2 m2 hf4
    refine am_goN vX9_readPlay 4 ?_
    refine s_stormAt (fun j hj hxj => ?_) (fun hxj => ?_)
    · exact kF72 f I2 x2 x3 _ hq f2 m2 hf4
    · exact kF72 f I2 x2 x3 _ hq f2 m2 hf4
  have kF60 : ∀ (f : FLT) (I2 : II) (x2 x3 : Int32), (∀ (I' : II), FrI VRD I I' → CFl I' f → (1 ≤ f.1 ∧ f.1 ≤ 4) → Q none I' Lg R (GM gc)) → FrI VRD I I2 → CFl I2 f → (1 ≤ f.1 ∧ f.1 ≤ 4) → am_J Γ mX9_readPlay Q (d + 7) 0 0 60 [some (vR 9 0), some (vR 10 0), some (vI x2), some (vI x3), none] [] I2 Lg R (GM gc) := by
    intro f I2 x2 x3 hq f2 m2 hf4
    refine am_goN vX9_readPlay 3 ?_
    refine s_readSemiF (m2.ne hf4) ?_
    exact kF65 f I2 x2 x3 hq f2 m2 hf4
  have kF50 : ∀ (f : FLT) (I2 : II) (x2 : Int32), (∀ (I' : II), FrI VRD I I' → CFl I' f → (1 ≤ f.1 ∧ f.1 ≤ 4) → Q none I' Lg R (GM gc)) → FrI VRD I I2 → CFl I2 f → (1 ≤ f.1 ∧ f.1 ≤ 4) → am_J Γ mX9_readPlay Q (d + 7) 0 0 50 [some (vR 9 0), some (vR 10 0), some (vI x2), none, none] [] I2 Lg R (GM gc) := by
    intro f I2 x2 hq f2 m2 hf4
    refine am_goN vX9_readPlay 6 ?_
    refine s_readNumberF (m2.ne hf4) ?_
    refine fun x3 ex3 => ?_
    exact kF60 f I2 x2 x3 hq f2 m2 hf4
  have kF43 : ∀ (f : FLT) (I2 : II) (x2 : Int32), (∀ (I' : II), FrI VRD I I' → CFl I' f → (1 ≤ f.1 ∧ f.1 ≤ 4) → Q none I' Lg R (GM gc)) → FrI VRD I I2 → CFl I2 f → (1 ≤ f.1 ∧ f.1 ≤ 4) → am_J Γ mX9_readPlay Q (d + 7) 0 0 43 [some (vR 9 0), some (vR 10 0), some (vI x2), none, none] [] I2 Lg R (GM gc) := by
    intro f I2 x2 hq f2 m2 hf4
    refine am_goN vX9_readPlay 2 ?_
    refine ar_ldcS (q := 0) (tx := "at") (fun U hU => (hK U hU).1) dl_X9_readPlay_45 ?_
    refine am_goN vX9_readPlay 1 ?_
    refine s_readWordF (m2.ne hf4) ?_
    exact kF50 f I2 x2 hq f2 m2 hf4
  have t14 : (1 : Int) ≤ 1 ∧ (1 : Int) ≤ 4 := by omega
  refine am_runN vX9_readPlay 2 _ rfl rfl rfl rfl ?_
  refine s_nextToken hb hx (hm.at9 (Or.inl ht1)) (by omega) (fun I1 f1 c1 => ?_)
  have hT1 : TOK sz bs (tokA sz bs t.en) := ⟨t.en, hen, rfl⟩
  have f1' : FrI VRD I I1 := V0_rd f1 (by decide)
  have hf1 : I1 37 0 0 = zI 0 := by rw [f1 _ _ rfl]; exact hf
  have tx1 : TapeAt I1 sz bs := hx.fr f1 rfl rfl
  have P1 : CPs I1 R sz bs P := hP.fr f1 (by decide) (by decide)
  have hg1 : ∀ h : (tokA sz bs t.en).1 = 1 ∨ (tokA sz bs t.en).1 = 2 ∨ (tokA sz bs t.en).1 = 3, t.en < (tokA sz bs t.en).en ∧ (tokA sz bs t.en).en ≤ sz := fun h => tok_gt hb hen h
  generalize tokA sz bs t.en = t1 at *
  -- the rest, where that storm is told
  have k43 : ∀ (j : Nat) (es : LST) (x2 : Int32), isNm bs t1 → x2 = zI j → (∃ s, P.2.1[j]? = some s ∧ s.2 = es) → findS (twd bs t1) P.2.1 = some es → am_J Γ mX9_readPlay Q (d + 7) 0 0 43 [some (vR 9 0), some (vR 10 0), some (vI x2), none, none] [] I1 Lg R (GM gc) := by
    intro j es x2 hnm hx2 ⟨s, hs1, hs2⟩ hfs
    have hjl := (List.getElem?_eq_some_iff.mp hs1).1
    have g1 := hg1 (Or.inl hnm.1)
    rw [if_neg (fun z => z hnm), hfs] at hn hy
    dsimp only at hn hy
    refine am_goN vX9_readPlay 2 ?_
    refine ar_ldcS (q := 0) (tx := "at") (fun U hU => (hK U hU).1) dl_X9_readPlay_45 ?_
    refine am_goN vX9_readPlay 1 ?_
    refine s_readWord (q := 0) hW (by decide) hb tx1 (c1.at9 (Or.inl hnm.1)) g1.2 hf1 (fun he2 I2 f2 c2 => ?_) (fun f he2 I2 f2 m2 => ?_)
    · rw [show eWord bs (tokA sz bs t1.en) kAt = none from he2] at hn hy
      dsimp only at hn hy
      have w2 := eWord_k he2
      have g2 := tok_gt hb g1.2 (Or.inl w2.1)
      have f2' : FrI VRD I I2 := f1'.tr (V0_rd f2 (by decide))
      have hf2 : I2 37 0 0 = zI 0 := by rw [f2 _ _ rfl]; exact hf1
      have tx2 : TapeAt I2 sz bs := tx1.fr f2 rfl rfl
      have P2 : CPs I2 R sz bs P := P1.fr f2 (by decide) (by decide)
      generalize tokA sz bs t1.en = t2 at *
      refine am_goN vX9_readPlay 6 ?_
      refine s_readNumber (a := 0) (b := 2000) hb tx2 (c2.at9 (Or.inl w2.1)) g2.2 hf2 rfl rfl (by omega) (by omega) (fun he3 I3 f3 c3 => ?_) (fun f he3 x I3 f3 m3 => ?_)
      · rw [he3] at hn hy
        dsimp only at hn hy
        obtain ⟨y1, y2, y3⟩ := eNum_k he3
        have g3 := tok_gt hb g2.2 (Or.inr (Or.inl y1))
        have f3' : FrI VRD I I3 := f2'.tr (V0_rd f3 (by decide))
        have hf3 : I3 37 0 0 = zI 0 := by rw [f3 _ _ rfl]; exact hf2
        have tx3 : TapeAt I3 sz bs := tx2.fr f3 rfl rfl
        have P3 : CPs I3 R sz bs P := P2.fr f3 (by decide) (by decide)
        generalize tokA sz bs t2.en = t3 at *
        refine fun x3 ex3 => ?_
        refine am_goN vX9_readPlay 3 ?_
        refine s_readSemi hb tx3 (c3.at9 (Or.inr (Or.inl y1))) g3.2 hf3 (fun he4 I4 f4 c4 => ?_) (fun f he4 I4 f4 m4 => ?_)
        · rw [he4] at hy
          have f4' : FrI VRD I I4 := f3'.tr (V0_rd f4 (by decide))
          have hf4 : I4 37 0 0 = zI 0 := by rw [f4 _ _ rfl]; exact hf3
          have P4 : CPs I4 R sz bs P := P3.fr f4 (by decide) (by decide)
          have a4 := c4.at9 (Or.inr (Or.inr (eSemi_k he4)))
          generalize tokA sz bs t3.en = t4 at *
          refine am_goN vX9_readPlay 4 ?_
          refine s_stormAt (fun j2 hj2 hxj => ?_) (fun hxj => ?_)
          · have hjj : j2 = j := by
              have h1 : (zI (j2 : Int)).toInt = (zI (j : Int)).toInt := by rw [← hxj, ← hx2]
              rw [zI_toInt (by omega) (by omega), zI_toInt (by omega) (by omega)] at h1
              omega
            subst hjj
            refine am_goN vX9_readPlay 3 ?_
            refine And.intro (fun c => ?_) (fun _ => ?_)
            · rw [hf4] at c
              exact absurd (zI_toInt (a := 0) (by omega) (by omega)) c
            refine am_goN vX9_readPlay 4 ?_
            refine And.intro (fun c => ?_) (fun b hbb => ?_)
            · rw [P4.1] at c; cases c
            rw [P4.1] at hbb
            have hbb := Option.some.inj hbb
            subst hbb
            have hne : 1 + j2 ≠ curI P := by
              unfold curI
              cases hc : P.2.2.1 with
              | none => show 1 + j2 ≠ 0; omega
              | some w => show 1 + j2 ≠ 1 + P.2.1.length; omega
            refine am_goN vX9_readPlay 10 ?_
            refine s_addAll (l := t3.val) P4.2.2.2.1 ((P4.2.2.2.2.2.2.1 j2 s hs1).1) hne ex3 (fun I5 f5 p5 => ?_)
            rw [cap_addAll, hs2] at p5
            exact hy _ _ _ rfl I5 (f4'.tr (V1_rd f5 hc8)) (by rw [f5 _ _ (V1_out (vs := [37]) (by decide) _ (by decide) _)]; exact hf4) (by rw [f5 _ _ (V1_out (vs := [41]) (by decide) _ (by decide) _)]; exact a4) (P4.add f5 p5)
          · have h1 : x2.toInt = j := by rw [hx2, zI_toInt (by omega) (by omega)]
            omega
        · rw [he4] at hn
          obtain ⟨e4, -⟩ := eSemi_1 he4
          exact kF65 f I4 x2 x3 (hn f rfl) (f3'.tr (V0_rd f4 (by decide))) m4 (by rw [e4]; exact t14)
      · rw [he3] at hn
        refine fun x3 ex3 => ?_
        exact kF60 f I3 x2 x3 (hn f rfl) (f2'.tr (V0_rd f3 (by decide))) m3 (eNum_f he3)
    · rw [show eWord bs (tokA sz bs t1.en) kAt = some f from he2] at hn
      obtain ⟨e2, -⟩ := eWord_1 he2
      exact kF50 f I2 x2 (hn f rfl) (f1'.tr (V0_rd f2 (by decide))) m2 (by rw [e2]; exact t14)
  -- whether it is a name
  have k10 : ∀ x2 : Int32, (isNm bs t1 → (∃ (j : Nat) (es : LST), x2 = zI j ∧ (∃ s, P.2.1[j]? = some s ∧ s.2 = es) ∧ findS (twd bs t1) P.2.1 = some es) ∨ (x2 = zI (-1) ∧ findS (twd bs t1) P.2.1 = none)) → am_J Γ mX9_readPlay Q (d + 7) 0 0 10 [some (vR 9 0), some (vR 10 0), some (vI x2), none, none] [] I1 Lg R (GM gc) := by
    intro x2 hx2
    refine am_goN vX9_readPlay 3 ?_
    refine s_isName hW hK hb tx1 hT1 c1 (fun hnm => ?_) (fun hnm => ?_)
    · refine And.intro (fun _ => ?_) (fun c => ?_)
      · refine am_goN vX9_readPlay 3 ?_
        rcases hx2 hnm with ⟨j, es, e1, e2, e3⟩ | ⟨e1, e3⟩
        · obtain ⟨s, hs1, -⟩ := id e2
          have hjl := (List.getElem?_eq_some_iff.mp hs1).1
          refine And.intro (fun _ => k43 j es x2 hnm e1 e2 e3) (fun c => ?_)
          rw [e1, zI_toInt (by omega) (by omega), zI_toInt (by omega) (by omega)] at c
          omega
        · rw [if_neg (fun z => z hnm), e3] at hn
          refine And.intro (fun c => ?_) (fun _ => ?_)
          · rw [e1] at c
            exact absurd rfl c
          refine am_goN vX9_readPlay 5 ?_
          refine s_failT (t := t1) (k := 3) hf1 rfl c1.2.1 (fun I5 f5 m5 => ?_)
          exact kF43 (3, t1.2.1) I5 x2 (hn _ rfl) (f1'.tr (V0_rd f5 (by decide))) m5 (by show (1 : Int) ≤ 3 ∧ (3 : Int) ≤ 4; omega)
      · rw [zI_toInt (by omega) (by omega)] at c
        omega
    · rw [if_pos hnm] at hn
      refine And.intro (fun c => ?_) (fun _ => ?_)
      · rw [zI_toInt (by omega) (by omega)] at c
        omega
      refine am_goN vX9_readPlay 6 ?_
      refine s_failT (t := t1) (k := 1) hf1 rfl c1.2.1 (fun I5 f5 m5 => ?_)
      exact kF43 (1, t1.2.1) I5 x2 (hn _ rfl) (f1'.tr (V0_rd f5 (by decide))) m5 t14
  refine am_goN vX9_readPlay 4 ?_
  refine s_findStorm hb tx1 hT1 c1 h8 P1.2.1 P1.nms (fun j s hj hw hmin => ?_) (fun hno => ?_)
  · refine fun x2 ex2 => ?_
    refine k10 x2 (fun hnm => Or.inl ⟨j, s.2, ex2, ⟨s, hj, rfl⟩, ?_⟩)
    have hw := ((isNm_w hnm _).mp hw)
    refine findS_some _ j (by rw [hw]; exact hj) (fun i x hi hx q => ?_)
    exact hmin i x hi hx ((isNm_w hnm _).mpr q.symm)
  · refine fun x2 ex2 => ?_
    refine k10 x2 (fun hnm => Or.inr ⟨ex2, ?_⟩)
    exact findS_none _ (fun i x hx q => hno i x hx ((isNm_w hnm _).mpr q.symm))
