theorem alnE_first {sz : Nat} {bs : Nat → Int} {q : Nat} (hq : q < sz) (h : (97 ≤ bs q ∧ bs q ≤ 122) ∨ (48 ≤ bs q ∧ bs q ≤ 57)) : ∀ f, q + 1 ≤ alnE sz bs (f + 1) q := by
  intro f
  unfold alnE
  rw [if_pos ⟨hq, h⟩]
  exact (alnE_le f (q + 1)).1
theorem alnE_no {sz : Nat} {bs : Nat → Int} {q : Nat} (h : ¬ ((97 ≤ bs q ∧ bs q ≤ 122) ∨ (48 ≤ bs q ∧ bs q ≤ 57))) : ∀ f, alnE sz bs f q = q
  | 0 => rfl
  | f + 1 => by
    unfold alnE
    rw [if_neg (fun z => h z.2)]
/-- the kind of a run of letters and digits -/
theorem rkind_gd {bs : Nat → Int} {q n : Nat} (hn : 1 ≤ n) (ha : alnP bs q n) :
    (letP bs q n → rkind (rst bs q n) = if n ≤ 8 then 1 else 4) ∧ (digP bs q n → rkind (rst bs q n) = (if n ≤ 4 then 2 else 4) ∧ (n ≤ 4 → (rst bs q n).2.2 = nvN bs q n)) ∧ (¬ letP bs q n → ¬ digP bs q n → rkind (rst bs q n) = 4) := by
  refine ⟨fun h => ?_, fun h => ?_, fun h1 h2 => ?_⟩
  · obtain ⟨e1, e2⟩ := rst_let n h
    unfold rkind
    rw [e1, e2]
    by_cases q : n ≤ 8
    · rw [if_pos ⟨rfl, hn, q⟩, if_pos q]
    · rw [if_neg (fun z => q z.2.2), if_neg (by omega), if_neg q]
  · obtain ⟨e1, e2, e3⟩ := rst_dig n h
    refine ⟨?_, e3⟩
    unfold rkind
    rw [e1, e2, if_neg (by omega)]
    by_cases q : n ≤ 4
    · rw [if_pos ⟨rfl, hn, q⟩, if_pos q]
    · rw [if_neg (fun z => q z.2.2), if_neg q]
  · have m1 : 1 ≤ (rst bs q n).2.1 := by
      refine rst_mix1 n ?_
      refine Classical.byContradiction (fun hno => h1 (fun i hi => ?_))
      rcases ha i hi with z | z
      · exact z
      · exact absurd ⟨i, hi, z⟩ hno
    have m2 : 1 ≤ (rst bs q n).1 := by
      refine rst_mix2 n ?_
      refine Classical.byContradiction (fun hno => h2 (fun i hi => ?_))
      rcases ha i hi with z | z
      · exact absurd ⟨i, hi, z⟩ hno
      · exact z
    unfold rkind
    rw [if_neg (by omega), if_neg (by omega)]
set_option maxRecDepth 100000 in
theorem s_go {Γ : AMG} {Q : QQ} {d p : Nat} {I : II} {Lg : LJ} {R : RR} {gc : Nat → Nat} {sz : Nat} {bs : Nat → Int} (hb : BSsok sz bs) (ht : ∀ k, k < sz → I 125 0 k = zI (bs k)) (hs : I 61 0 0 = zI sz) (ha : I 62 0 0 = zI p) (hp : p ≤ sz)
    (h : ∀ (I' : II) (Lg' : LJ), FrI (V0 mgv) I I' → FrW Lg Lg' → MTk I' Lg' sz bs (tokA sz bs p) → Q none I' Lg' R (GM gc)) : am_Sp Γ (d + 1) 0 0 mX12_go [vR 12 0] I Lg R (GM gc) Q := by
  have hsz := hb.1
  refine am_Sp.of rfl rfl (Nat.le_of_ble_eq_true rfl) ?_
  refine mskip_loop hb ht hs 640 p I (by omega) (by omega) FrI.rf ha (fun I1 f1 a1 hq => ?_)
  have h2 := skp_two (bs := bs) (a := min sz 600) (b := sz) (by omega) 640 p (by omega)
  have hQ : skp bs (min sz 600) 640 p = tkQ sz bs p := rfl
  rw [hQ] at h2
  unfold tokA at h
  generalize hqq : skp bs sz 640 p = q' at *
  generalize tkQ sz bs p = q at *
  refine am_goN vX12_go 8 ?_
  refine fun y2 ey2 I2 e2 => ?_
  have f2 : FrI (V0 [63]) I1 I2 := by rw [e2]; exact FrI.rf.up rfl
  have fr2 : I2 63 0 0 = zI q' := by rw [e2, up3_s, ey2]; exact a1
  have frt : (I2 63 0 0).toInt = q' := by rw [fr2, zI_toInt (by omega) (by omega)]
  have a2 : I2 62 0 0 = zI q' := by rw [f2 _ _ rfl]; exact a1
  have at2 : (I2 62 0 0).toInt = q' := by rw [a2, zI_toInt (by omega) (by omega)]
  have an2 : (I2 62 0 0).toInt.toNat = q' := by rw [at2]; omega
  have f12 : FrI (V0 mgv) I I2 := f1.tr (f2.mono (fun v i h => V0_sub (by decide) h))
  have s2 : I2 61 0 0 = zI sz := by rw [f12 _ _ rfl]; exact hs
  have st2 : (I2 61 0 0).toInt = sz := by rw [s2, zI_toInt (by omega) (by omega)]
  have t2 : ∀ k, k < sz → I2 125 0 k = zI (bs k) := fun k hk => by rw [f12 _ _ rfl]; exact ht k hk
  have k93 : (sz ≤ 600 ∨ q' < 600) → am_J Γ mX12_go Q (d + 1) 0 0 93 (am_pad mX12_go.2.2.2.1 (am_slots [vR 12 0])) [] I2 Lg R (GM gc) := by
    intro hc
    refine am_goN vX12_go 5 ?_
    refine And.intro (fun c => ?_) (fun c => ?_)
    · rw [at2, st2] at c
      have hqe : q = q' := by
        by_cases hx : min sz 600 ≤ q
        · have := h2.2 hx
          omega
        · exact (h2.1 (by omega)).symm
      subst hqe
      rw [if_neg (by omega)] at h
      have hbq := hb.2 q
      refine am_goN vX12_go 9 ?_
      refine And.intro ⟨by omega, by omega⟩ ?_
      rw [an2]
      refine fun x1 ex1 => ?_
      have hx1 : x1 = zI (bs q) := by rw [ex1, t2 q (by omega)]
      -- a run of letters and digits
      have k160 : ((97 ≤ bs q ∧ bs q ≤ 122) ∨ (48 ≤ bs q ∧ bs q ≤ 57)) → am_J Γ mX12_go Q (d + 1) 0 0 160 [some (vR 12 0), some (vI x1), none, none, none] [] I2 Lg R (GM gc) := by
        intro hy
        rw [if_neg (by omega)] at h
        have k164 : ∀ (x2 : Int32) (lt : Bool), x2 = zI (cond lt 1 0) → (lt = true ↔ (97 ≤ bs q ∧ bs q ≤ 122)) → am_J Γ mX12_go Q (d + 1) 0 0 165 [some (vR 12 0), some (vI x1), some (vI x2), none, none] [] I2 Lg R (GM gc) := by
          intro x2 lt hx2 hlt
          refine am_goN vX12_go 8 ?_
          refine fun x3 ex3 y4 ey4 I4 e4 => ?_
          have f4 : FrI (V0 [65]) I2 I4 := by rw [e4]; exact FrI.rf.up rfl
          refine mscan_loop (q := q) (lt := lt) (I := I4) (Lg := up3 Lg 0 0 0 (zL 0)) hb (fun k hk => by rw [f4 _ _ rfl]; exact t2 k hk) (by rw [f4 _ _ rfl]; exact s2) (by omega) (by rw [f4 _ _ rfl]; exact fr2) hx2 (sz - q) 0 x3 _ I4 _ (by omega) (Or.inl ⟨ex3, ?_⟩) FrI.rf FrW.rf (by rw [f4 _ _ rfl]; exact a2) (up3_s _ _ _ _ _) (by rw [e4, up3_s, ey4]; rfl) (fun I5 Lg5 n y3 l4 r1 r2 r3 r4 r5 r6 r7 => ?_)
          · cases lt
            · exact fun i hi => absurd hi (by omega)
            · exact fun i hi => absurd hi (by omega)
          have hE : tkE sz bs q = q + n := by
            unfold tkE
            rw [← r1]
            show alnE sz bs 640 q = alnE sz bs (sz - q + 1) q
            rw [alnE_ge (sz - q) q 640 (by omega) (by omega), alnE_ge (sz - q) q (sz - q + 1) (by omega) (by omega)]
          have hn1 : 1 ≤ n := by
            have := alnE_first (sz := sz) (by omega) hy (sz - q)
            rw [show alnE sz bs (sz - q + 1) q = q + n from r1] at this
            omega
          have hnz : q + n ≤ sz := by
            have := (alnE_le (sz := sz) (bs := bs) (sz - q + 1) q).2
            rw [show alnE sz bs (sz - q + 1) q = q + n from r1] at this
            omega
          have hal : alnP bs q n := by
            have := alnE_spec (sz := sz) (bs := bs) (sz - q + 1) q
            rw [show alnE sz bs (sz - q + 1) q = q + n from r1, show q + n - q = n by omega] at this
            exact this
          rw [hE, show q + n - q = n by omega] at h
          obtain ⟨g1, g2, g3⟩ := rkind_gd hn1 hal
          have hf5 : FrI (V0 mgv) I I5 := (f12.tr (f4.mono (fun v i h => V0_sub (by decide) h))).tr (r3.mono (fun v i h => V0_sub (by decide) h))
          have hl5 : FrW Lg Lg5 := (FrW.rf.up (zL 0)).tr r4
          have fr5 : I5 63 0 0 = zI q := by rw [r3 _ _ rfl, f4 _ _ rfl]; exact fr2
          have hdif : (I5 62 0 0 - I5 63 0 0).toInt = n := by rw [r5, fr5, zI_sub, zI_toInt (by omega) (by omega)]; omega
          -- the kind is told
          have fin : ∀ (y : Int32) (I6 : II) (kd : Nat), kd = rkind (rst bs q n) → I6 = up3 I5 64 0 0 y → ((kd = 4 ∧ y = zI 1) ∨ (kd = 1 ∧ y = zI 2) ∨ (kd = 2 ∧ y = zI 3 ∧ (rst bs q n).2.2 = nvN bs q n)) → Q none I6 Lg5 R (GM gc) := by
            intro y I6 kd hkd e6 hy6
            have f6 : FrI (V0 [64]) I5 I6 := by rw [e6]; exact FrI.rf.up rfl
            have hk6 : I6 64 0 0 = y := by rw [e6, up3_s]
            refine h I6 Lg5 (hf5.tr (f6.mono (fun v i h => V0_sub (by decide) h))) hl5 ?_
            rw [← hkd]
            refine ⟨by rw [f6 _ _ rfl]; exact fr5, fun z => ?_, fun z => ?_, fun z => ?_, fun z => ?_, fun z => ?_⟩
            · have z : kd = 0 := z
              omega
            · have z : kd = 4 := z
              rcases hy6 with hy6 | hy6 | hy6
              · rw [hk6]; exact hy6.2
              · omega
              · omega
            · have z : kd = 3 := z
              omega
            · have z : kd = 2 := z
              rcases hy6 with hy6 | hy6 | hy6
              · omega
              · omega
              · exact ⟨by rw [hk6]; exact hy6.2.1, by rw [f6 _ _ rfl]; exact r5, by rw [f6 _ _ rfl, r7]; show _ = zI (rst bs q n).2.2; rw [hy6.2.2]⟩
            · have z : kd = 1 := z
              rcases hy6 with hy6 | hy6 | hy6
              · omega
              · refine ⟨by rw [hk6]; exact hy6.2, by rw [f6 _ _ rfl]; exact r5, ?_⟩
                rw [r6]
                show _ = zL (hwN bs q (q + n - q))
                rw [show q + n - q = n by omega]
              · omega
          have hbad : rkind (rst bs q n) = 4 → am_J Γ mX12_go Q (d + 1) 0 0 339 [some (vR 12 0), some (vI x1), some (vI x2), some (vI y3), l4] [vR 12 0] I5 Lg5 R (GM gc) := by
            intro hk
            refine am_goN vX12_go 10 ?_
            exact fun y ey I6 e6 => fin y I6 4 hk.symm e6 (Or.inl ⟨rfl, ey⟩)
          refine am_goN vX12_go 3 ?_
          refine And.intro (fun c2 => ?_) (fun c2 => ?_)
          · refine hbad ?_
            rcases r2 with ⟨r2, -⟩ | ⟨-, r2⟩
            · rw [r2, zI_toInt (by omega) (by omega)] at c2
              omega
            · cases lt
              · refine g3 (fun z => ?_) r2
                have z0 := z 0 (by omega)
                have : ¬ (97 ≤ bs q ∧ bs q ≤ 122) := fun w => by have := hlt.mpr w; cases this
                exact this z0
              · refine g3 r2 (fun z => ?_)
                have z0 := z 0 (by omega)
                have := hlt.mp rfl
                rw [Nat.add_zero] at z0
                omega
          have hg : gdP bs q n lt := by
            rcases r2 with ⟨-, r2⟩ | ⟨r2, -⟩
            · exact r2
            · rw [r2, zI_toInt (by omega) (by omega)] at c2
              omega
          refine am_goN vX12_go 7 ?_
          cases lt
          · obtain ⟨g2a, g2b⟩ := g2 hg
            have hx20 : x2.toInt = 0 := by rw [hx2]; rfl
            refine And.intro (fun c3 => ?_) (fun c3 => absurd hx20 c3)
            refine am_goN vX12_go 2 ?_
            refine And.intro (fun c4 => ?_) (fun c4 => ?_)
            · rw [hdif, zI_toInt (by omega) (by omega)] at c4
              rw [if_pos (by omega)] at g2a
              refine am_goN vX12_go 10 ?_
              refine And.intro (fun c5 => ?_) (fun c5 => absurd hx20 c5)
              exact fun y ey I6 e6 => fin y I6 2 g2a.symm e6 (Or.inr (Or.inr ⟨rfl, ey, g2b (by omega)⟩))
            · rw [hdif, zI_toInt (by omega) (by omega)] at c4
              rw [if_neg (by omega)] at g2a
              exact hbad g2a
          · have g1a := g1 hg
            have hx21 : x2.toInt = 1 := by rw [hx2]; rfl
            refine And.intro (fun c3 => ?_) (fun c3 => ?_)
            · omega
            refine am_goN vX12_go 3 ?_
            refine And.intro (fun c4 => ?_) (fun c4 => ?_)
            · rw [hdif, zI_toInt (by omega) (by omega)] at c4
              rw [if_pos (by omega)] at g1a
              refine am_goN vX12_go 10 ?_
              refine And.intro (fun c5 => ?_) (fun c5 => ?_)
              · omega
              exact fun y ey I6 e6 => fin y I6 1 g1a.symm e6 (Or.inr (Or.inl ⟨rfl, ey⟩))
            · rw [hdif, zI_toInt (by omega) (by omega)] at c4
              rw [if_neg (by omega)] at g1a
              exact hbad g1a
        refine am_goN vX12_go 3 ?_
        rw [hx1]
        refine s_misLetter (fun c1 c2 => ?_) (fun c1 => ?_)
        · rw [zI_toInt (by omega) (by omega)] at c1 c2
          rw [← hx1]
          exact fun x2 ex2 => k164 x2 true ex2 ⟨fun _ => ⟨c1, c2⟩, fun _ => rfl⟩
        · rw [zI_toInt (by omega) (by omega)] at c1
          rw [← hx1]
          exact fun x2 ex2 => k164 x2 false ex2 ⟨fun z => Bool.noConfusion z, fun z => by omega⟩
      rw [hx1]
      refine s_misLetter (fun c1 c2 => ?_) (fun c1 => ?_)
      · rw [zI_toInt (by omega) (by omega)] at c1 c2
        rw [← hx1]
        refine And.intro (fun _ => ?_) (fun c => ?_)
        · exact k160 (Or.inl ⟨c1, c2⟩)
        · rw [zI_toInt (by omega) (by omega)] at c
          omega
      rw [zI_toInt (by omega) (by omega)] at c1
      rw [← hx1]
      refine And.intro (fun c => ?_) (fun _ => ?_)
      · rw [zI_toInt (by omega) (by omega)] at c
        omega
      refine am_goN vX12_go 3 ?_
      rw [hx1]
      refine s_misDigit (fun d1 d2 => ?_) (fun d1 => ?_)
      · rw [zI_toInt (by omega) (by omega)] at d1 d2
        rw [← hx1]
        refine And.intro (fun _ => ?_) (fun c => ?_)
        · exact k160 (Or.inr ⟨d1, d2⟩)
        · rw [zI_toInt (by omega) (by omega)] at c
          omega
      rw [zI_toInt (by omega) (by omega)] at d1
      rw [← hx1]
      refine And.intro (fun c => ?_) (fun _ => ?_)
      · rw [zI_toInt (by omega) (by omega)] at c
        omega
      have hx1t : x1.toInt = bs q := by rw [hx1, zI_toInt (by omega) (by omega)]
      refine am_goN vX12_go 60 ?_
      refine And.intro (fun c2 => ?_) (fun c2 => ?_)
      · rw [hx1t, zI_toInt (by omega) (by omega)] at c2
        have hno : ¬ ((97 ≤ bs q ∧ bs q ≤ 122) ∨ (48 ≤ bs q ∧ bs q ≤ 57)) := by omega
        have hE : tkE sz bs q = q := alnE_no hno 640
        rw [if_neg c2, hE, Nat.sub_self] at h
        have hk4 : rkind (rst bs q 0) = 4 := rfl
        rw [hk4] at h
        refine fun y5 ey5 I5 e5 y6 ey6 I6 e6 => ?_
        have f6 : FrI (V0 mgv) I2 I6 := by rw [e6, e5]; exact (FrI.rf.up rfl).up rfl
        refine h I6 Lg (f12.tr f6) FrW.rf ⟨?_, (fun z => by cases z), fun _ => ?_, (fun z => by cases z), (fun z => by cases z), (fun z => by cases z)⟩
        · rw [e6, up3_v _ (by decide), e5, up3_v _ (by decide)]; exact fr2
        · rw [e6, up3_v _ (by decide), e5, up3_s, ey5]
      · rw [hx1t, zI_toInt (by omega) (by omega)] at c2
        rw [if_pos (by omega)] at h
        refine fun y5 ey5 I5 e5 y6 ey6 I6 e6 => ?_
        have f6 : FrI (V0 mgv) I2 I6 := by rw [e6, e5]; exact (FrI.rf.up rfl).up rfl
        refine h I6 Lg (f12.tr f6) FrW.rf ⟨?_, (fun z => by cases z), (fun z => by cases z), fun _ => ⟨?_, ?_⟩, (fun z => by cases z), (fun z => by cases z)⟩
        · rw [e6, up3_v _ (by decide), e5, up3_v _ (by decide)]; exact fr2
        · rw [e6, up3_v _ (by decide), e5, up3_s, ey5]
        · rw [e6, up3_s, ey6, e5, up3_v _ (by decide), a2, zI_add]; congr 1
    · rw [at2, st2] at c
      have hq1 : min sz 600 ≤ q := by
        by_cases hx : min sz 600 ≤ q
        · exact hx
        · have := h2.1 (by omega)
          omega
      rw [if_pos hq1] at h
      have hq' : q' = sz := by
        have := (skp_le (bs := bs) (lim := sz) 640 p).2
        rw [hqq] at this
        omega
      refine am_goN vX12_go 60 ?_
      refine fun y5 ey5 I5 e5 => ?_
      have f5 : FrI (V0 mgv) I2 I5 := by rw [e5]; exact FrI.rf.up rfl
      refine h I5 Lg (f12.tr f5) FrW.rf ⟨?_, (fun _ => ?_), (fun z => by cases z), (fun z => by cases z), (fun z => by cases z), (fun z => by cases z)⟩
      · rw [e5, up3_v _ (by decide), fr2]
        show _ = zI (min sz 600 : Nat)
        congr 1
        omega
      · rw [if_pos (by omega), e5, up3_s, ey5]
  refine And.intro (fun c => ?_) (fun c => ?_)
  · rw [st2, zI_toInt (by omega) (by omega)] at c
    exact k93 (Or.inl (by omega))
  rw [st2, zI_toInt (by omega) (by omega)] at c
  refine am_goN vX12_go 4 ?_
  refine And.intro (fun c2 => ?_) (fun c2 => ?_)
  · rw [frt, zI_toInt (by omega) (by omega)] at c2
    exact k93 (Or.inr (by omega))
  · rw [frt, zI_toInt (by omega) (by omega)] at c2
    have hq1 : min sz 600 ≤ q := by
      by_cases hx : min sz 600 ≤ q
      · exact hx
      · have := h2.1 (by omega)
        omega
    rw [if_pos hq1] at h
    refine am_goN vX12_go 60 ?_
    refine fun y5 ey5 I5 e5 y6 ey6 I6 e6 => ?_
    have f6 : FrI (V0 mgv) I2 I6 := by rw [e6, e5]; exact (FrI.rf.up rfl).up rfl
    refine h I6 Lg (f12.tr f6) FrW.rf ⟨?_, fun _ => ?_, (fun z => by cases z), (fun z => by cases z), (fun z => by cases z), (fun z => by cases z)⟩
    · rw [e6, up3_v _ (by decide), e5, up3_s, ey5]
      show _ = zI (min sz 600 : Nat)
      congr 1
      omega
    · rw [if_neg (by omega), e6, up3_s, ey6]
