/-! The carpenter passes a board: the method. -/
set_option maxRecDepth 100000 in
theorem s_passes {Γ : AMG} {Q : QQ} {d bo k : Nat} {x3 : Int32} {I : II} {Lg : LJ} {R : RR} {gc : Nat → Nat} {b : BD} {nW : Nat} {W : Nat → Int} {w : CRW} (hb : BDok b) (hB : BoardAt I bo b) (hT : TKAt I nW W) (hw : CRAt I k w) (hok : CRok w) (hx3 : x3 = zI k) (hk : k < 12)
    (hn : lay1 b nW W w = none → ∀ I' : II, FrB (k + 1) I I' → Q (some (vI (zI 0))) I' Lg R (GM gc))
    (hy : ∀ w' : CRW, lay1 b nW W w = some w' → ∀ I' : II, FrB (k + 1) I I' → CRAt I' (k + 1) w' → Q (some (vI (zI 1))) I' Lg R (GM gc)) :
    am_Sp Γ (d + 3) 0 0 mX2_passes [vR 2 0, vR 1 bo, vR 10 0, vI x3] I Lg R (GM gc) Q := by
  obtain ⟨⟨a1, a2⟩, ⟨a3, a4⟩, ⟨a5, a6⟩, ⟨a7, a8⟩, a9, a10⟩ := id hok
  obtain ⟨w1, w2, w3, w4, w5, w6⟩ := id hw
  have g1 := hb.1
  have g2 := hb.2.1
  have h3 : x3.toInt = k := by rw [hx3, zI_toInt (by omega) (by omega)]
  have h3n : x3.toInt.toNat = k := by omega
  refine am_runN vX2_passes 4 _ rfl rfl rfl rfl ?_
  refine fun x4 ex4 => ?_
  have hx4 : x4 = zI ((k + 1 : Nat) : Int) := by rw [ex4, hx3, zI_add]; congr 1
  have h4 : x4.toInt = (k + 1 : Nat) := by rw [hx4, zI_toInt (by omega) (by omega)]
  have h4n : x4.toInt.toNat = k + 1 := by omega
  refine am_goN vX2_passes 2 ?_
  refine And.intro (fun c => ?_) (fun _ => ?_)
  · omega
  refine am_goN vX2_passes 3 ?_
  refine And.intro (fun _ => ?_) (fun c => ?_)
  · refine am_goN vX2_passes 3 ?_
    refine s_cload hw hx3 (by omega) (fun I1 f1 b1 => ?_)
    have B1 : FrB (k + 1) I I1 := FrI.b f1 (by decide)
    have row1 : CRAt I1 k w := B1.row (by omega) hw
    refine am_goN vX2_passes 8 ?_
    refine And.intro ⟨by omega, by omega⟩ ?_
    refine And.intro ⟨by omega, by omega⟩ ?_
    rw [h3n, h4n]
    refine fun y1 ey1 I2 e2 => ?_
    refine am_goN vX2_passes 8 ?_
    refine And.intro ⟨by omega, by omega⟩ ?_
    refine And.intro ⟨by omega, by omega⟩ ?_
    rw [h3n, h4n]
    refine fun y2 ey2 I3 e3 => ?_
    have K3 : FrK [86, 87] (k + 1) I1 I3 := by rw [e3, e2]; exact (FrK.rf.up rfl).up rfl
    have B3 : FrB (k + 1) I I3 := B1.tr (K3.b (by decide))
    have b3 : BallAt I3 26 (w.2.1, w.2.2.1, w.2.2.2.1, w.2.1, w.2.2.1) := b1.fr K3.fr (fun v hv => V0_outI (by decide) v hv 26)
    have bd3 : BoardAt I3 bo b := hB.fr B3.fr (fun v hv i => by rw [V0_outI (l := crw6) (vs := rvars) (by decide) v hv i, V1_out (l := bvars) (p := 26) (vs := rvars) (by decide) v hv i]; rfl)
    have kn3 : I3 86 0 (k + 1) = zI w.2.2.2.2.1 := by rw [e3, up3_v _ (by decide), e2, up3_s, ey1]; exact row1.2.2.2.2.1
    have sm3 : I3 87 0 (k + 1) = zI w.2.2.2.2.2 := by rw [e3, up3_s, ey2, e2, up3_v _ (by decide)]; exact row1.2.2.2.2.2
    have row3 : CRAt I3 k w := B3.row (by omega) hw
    have T3 : TKAt I3 nW W := hT.fr B3.fr rfl rfl
    have p3t : (I3 2 26 0).toInt = w.2.2.1 := by rw [show I3 2 26 0 = zI w.2.2.1 from b3.2.1, zI_toInt (by omega) (by omega)]
    have l3t : (I3 6 bo 0).toInt = b.1 := by rw [bd3.1, zI_toInt (by omega) (by omega)]
    unfold lay1 at hn hy
    refine am_goN vX2_passes 6 ?_
    refine And.intro (fun c => ?_) (fun c => ?_)
    · rw [p3t, l3t] at c
      rw [if_neg (by omega)] at hn hy
      refine am_goN vX2_passes 9 ?_
      refine And.intro ⟨by omega, by omega⟩ ?_
      rw [h3n]
      refine s_rollToEnd (t := w.1) (f := (2000 - w.1).toNat) hb bd3 b3 a5 a6 a3 c row3.1 (by show zI 2000 = _; congr 1; omega) ⟨a1, by omega⟩ (fun hr I4 f4 => ?_) (fun t' p' s' hr I4 f4 b4 => ?_)
      · have hr : rolE b (2000 - w.1).toNat w.1 w.2.2.1 w.2.2.2.1 = none := hr
        rw [hr] at hn
        refine fun x5 ex5 => ?_
        refine am_goN vX2_passes 3 ?_
        refine And.intro (fun c5 => ?_) (fun _ => ?_)
        · rw [ex5] at c5
          exact absurd rfl c5
        refine am_goN vX2_passes 3 ?_
        exact ⟨Or.inl rfl, hn rfl I4 (B3.tr (FrI.b f4 (by decide)))⟩
      · have hr : rolE b (2000 - w.1).toNat w.1 w.2.2.1 w.2.2.2.1 = some (t', p', s') := hr
        rw [hr] at hn hy
        dsimp only at hn hy
        obtain ⟨r1, r2, r3, r4, r5, r6⟩ := rolE_ok hb _ _ _ _ _ _ _ a3 c hr
        obtain ⟨xa, xb, b4⟩ := b4
        have B4 : FrB (k + 1) I I4 := B3.tr (FrI.b f4 (by decide))
        have bd4 : BoardAt I4 bo b := hB.fr B4.fr (fun v hv i => by rw [V0_outI (l := crw6) (vs := rvars) (by decide) v hv i, V1_out (l := bvars) (p := 26) (vs := rvars) (by decide) v hv i]; rfl)
        have hd := hb.2.2.2.2.2.2
        refine fun x5 ex5 => ?_
        have h5 : x5.toInt = t' := by rw [ex5, zI_toInt (by omega) (by omega)]
        refine am_goN vX2_passes 3 ?_
        refine And.intro (fun _ => ?_) (fun c5 => ?_)
        · refine am_goN vX2_passes 7 ?_
          refine s_falls (dr := b.2.2.2.1) hb bd4 b4 r5 r6 (by show 0 ≤ p'; omega) (by show p' ≤ 1000000; omega) hd.1 hd.2.1 bd4.2.2.2.1 (fun I5 f5 b5 => ?_)
          have b5 : BallAt I5 26 (w.2.1, lvP b b.2.2.2.1 p' s', lvS b s', xa, xb) := b5
          have B5 : FrB (k + 1) I I5 := B4.tr (FrI.b f5 (by decide))
          have row5 : CRAt I5 k w := B5.row (by omega) hw
          have T5 : TKAt I5 nW W := hT.fr B5.fr rfl rfl
          have hlr := lvS_rng hb r5
          have hK := dr_rng hd.1 hd.2.1 r5 r6
          have hKr : 0 ≤ lvK b.2.2.2.1 s' ∧ lvK b.2.2.2.1 s' ≤ 1000 := by unfold lvK; omega
          have kn5 : I5 86 0 (k + 1) = zI w.2.2.2.2.1 := by rw [f5 _ _ (V1_out (vs := [86]) (by decide) _ (by decide) _), f4 _ _ (V1_out (vs := [86]) (by decide) _ (by decide) _)]; exact kn3
          have sm5 : I5 87 0 (k + 1) = zI w.2.2.2.2.2 := by rw [f5 _ _ (V1_out (vs := [87]) (by decide) _ (by decide) _), f4 _ _ (V1_out (vs := [87]) (by decide) _ (by decide) _)]; exact sm3
          -- the row is stored
          have k199 : ∀ (l6 : Option AV) (I6 : II) (kn sm : Int), FrK [86, 87] (k + 1) I5 I6 → I6 86 0 (k + 1) = zI kn → I6 87 0 (k + 1) = zI sm → (∀ I' : II, FrB (k + 1) I I' → CRAt I' (k + 1) (t', w.2.1, lvP b b.2.2.2.1 p' s', lvS b s', kn, sm) → Q (some (vI (zI 1))) I' Lg R (GM gc)) →
              am_J Γ mX2_passes Q (d + 3) 0 0 199 [some (vR 2 0), some (vR 1 bo), some (vR 10 0), some (vI x3), some (vI x4), some (vI x5), l6] [] I6 Lg R (GM gc) := by
            intro l6 I6 kn sm K6 hk6 hs6 hq
            have b6 : BallAt I6 26 (w.2.1, lvP b b.2.2.2.1 p' s', lvS b s', xa, xb) := b5.fr K6.fr (fun v hv => V0_outI (by decide) v hv 26)
            refine am_goN vX2_passes 4 ?_
            refine s_cstore b6 hx4 (by omega) ex5 (fun I7 K7 q1 q2 q3 q4 => ?_)
            refine am_goN vX2_passes 3 ?_
            refine ⟨Or.inr rfl, hq I7 ((B5.tr (K6.b (by decide))).tr (K7.b (by decide))) ⟨q1, q2, q3, q4, ?_, ?_⟩⟩
            · rw [K7 _ _ _ (Or.inl rfl)]; exact hk6
            · rw [K7 _ _ _ (Or.inl rfl)]; exact hs6
          refine And.intro (fun c6 => ?_) (fun c6 => ?_)
          · have c6 : (zI (lvK b.2.2.2.1 s')).toInt ≤ 0 := c6
            rw [zI_toInt (by omega) (by omega)] at c6
            rw [if_neg (by omega)] at hy
            exact k199 _ I5 _ _ FrK.rf kn5 sm5 (fun I' hB' hc' => hy _ rfl I' hB' hc')
          · have c6 : 0 < (zI (lvK b.2.2.2.1 s')).toInt := c6
            rw [zI_toInt (by omega) (by omega)] at c6
            rw [if_pos c6] at hy
            have kk5 : (I5 86 0 k).toInt = w.2.2.2.2.1 := by rw [row5.2.2.2.2.1, zI_toInt (by omega) (by omega)]
            have tc5 : (I5 40 0 0).toInt = nW := by rw [T5.1, zI_toInt (by have := T5.2.1; omega) (by have := T5.2.1; omega)]
            have hWk := T5.2.2.2 w.2.2.2.2.1.toNat
            have k188 : ∀ (l6 : Option AV) (I6 : II) (sm : Int), FrK [86, 87] (k + 1) I5 I6 → I6 86 0 (k + 1) = zI w.2.2.2.2.1 → I6 87 0 (k + 1) = zI sm → (∀ I' : II, FrB (k + 1) I I' → CRAt I' (k + 1) (t', w.2.1, lvP b b.2.2.2.1 p' s', lvS b s', w.2.2.2.2.1 + 1, sm) → Q (some (vI (zI 1))) I' Lg R (GM gc)) →
                am_J Γ mX2_passes Q (d + 3) 0 0 188 [some (vR 2 0), some (vR 1 bo), some (vR 10 0), some (vI x3), some (vI x4), some (vI x5), l6] [] I6 Lg R (GM gc) := by
              intro l6 I6 sm K6 hk6 hs6 hq
              refine am_goN vX2_passes 8 ?_
              refine And.intro ⟨by omega, by omega⟩ ?_
              refine And.intro ⟨by omega, by omega⟩ ?_
              rw [h4n]
              refine fun y7 ey7 I7 e7 => ?_
              refine k199 l6 I7 _ sm (K6.tr (by rw [e7]; exact FrK.rf.up rfl)) ?_ ?_ hq
              · rw [e7, up3_s, ey7, hk6, zI_add]
              · rw [e7, up3_v _ (by decide)]; exact hs6
            have k152a : ∀ x6 : Int32, ¬ w.2.2.2.2.1 < nW → x6 = zI 0 → am_J Γ mX2_passes Q (d + 3) 0 0 152 [some (vR 2 0), some (vR 1 bo), some (vR 10 0), some (vI x3), some (vI x4), some (vI x5), some (vI x6)] [] I5 Lg R (GM gc) := by
              intro x6 hlt hx6
              rw [if_neg hlt] at hy
              refine am_goN vX2_passes 7 ?_
              refine And.intro ⟨by omega, by omega⟩ ?_
              rw [h4n]
              refine And.intro (fun _ => ?_) (fun c9 => ?_)
              · refine am_goN vX2_passes 3 ?_
                refine And.intro ⟨by omega, by omega⟩ ?_
                rw [h4n]
                refine fun y6 ey6 I6 e6 => ?_
                refine k188 _ I6 _ (by rw [e6]; exact FrK.rf.up rfl) (by rw [e6, up3_v _ (by decide)]; exact kn5) (by rw [e6, up3_s, ey6, sm5, zI_add]) (fun I' hB' hc' => hy _ rfl I' hB' hc')
              · rw [hx6] at c9
                exact absurd (zI_toInt (a := 0) (by omega) (by omega)) c9
            have k152b : ∀ x6 : Int32, w.2.2.2.2.1 < nW → x6 = zI 1 → am_J Γ mX2_passes Q (d + 3) 0 0 152 [some (vR 2 0), some (vR 1 bo), some (vR 10 0), some (vI x3), some (vI x4), some (vI x5), some (vI x6)] [] I5 Lg R (GM gc) := by
              intro x6 hlt hx6
              rw [if_pos hlt] at hy
              refine am_goN vX2_passes 7 ?_
              refine And.intro ⟨by omega, by omega⟩ ?_
              rw [h4n]
              refine And.intro (fun c9 => ?_) (fun _ => ?_)
              · rw [hx6] at c9
                have c9 : (zI 1).toInt = 0 := c9
                rw [zI_toInt (by omega) (by omega)] at c9
                omega
              · refine am_goN vX2_passes 12 ?_
                refine And.intro ⟨by omega, by omega⟩ ?_
                rw [h3n]
                refine s_tickAt T5 row5.2.2.2.2.1 ⟨a7, by omega⟩ ?_
                refine And.intro ⟨by omega, by omega⟩ ?_
                rw [h4n]
                refine fun y6 ey6 I6 e6 => ?_
                refine k188 _ I6 _ (by rw [e6]; exact FrK.rf.up rfl) (by rw [e6, up3_v _ (by decide)]; exact kn5) ?_ (fun I' hB' hc' => hy _ rfl I' hB' hc')
                rw [e6, up3_s, ey6, if_pos hlt, sm5, ex5, zI_sub, am_abs_z (by omega) (by omega), zI_add]
            refine am_goN vX2_passes 7 ?_
            refine And.intro ⟨by omega, by omega⟩ ?_
            rw [h3n]
            refine And.intro (fun c8 => ?_) (fun c8 => ?_)
            · rw [kk5, tc5] at c8
              refine am_goN vX2_passes 2 ?_
              refine fun x6 ex6 => ?_
              exact k152a x6 (by omega) ex6
            · rw [kk5, tc5] at c8
              refine am_goN vX2_passes 3 ?_
              refine fun x6 ex6 => ?_
              exact k152b x6 (by omega) ex6
        · rw [h5] at c5
          have c5 : t' = (zI (-1)).toInt := c5
          rw [zI_toInt (by omega) (by omega)] at c5
          omega
    · rw [p3t, l3t] at c
      rw [if_pos c] at hy
      refine am_goN vX2_passes 8 ?_
      refine fun y3 ey3 I4 e4 => ?_
      have f4 : FrI (V1 bvars 26) I3 I4 := by rw [e4]; exact FrI.rf.up (V1_in rfl)
      have B4 : FrB (k + 1) I I4 := B3.tr (FrI.b f4 (by decide))
      have row4 : CRAt I4 k w := B4.row (by omega) hw
      have b4 : BallAt I4 26 (w.2.1, w.2.2.1 - b.1, w.2.2.2.1, w.2.1, w.2.2.1) := by
        obtain ⟨q1, q2, q3, q4, q5⟩ := b3
        refine ⟨?_, ?_, ?_, ?_, ?_⟩
        · rw [e4, up3_v _ (by decide)]; exact q1
        · rw [e4, up3_s, ey3, show I3 2 26 0 = zI w.2.2.1 from q2, bd3.1, zI_sub]
        · rw [e4, up3_v _ (by decide)]; exact q3
        · rw [e4, up3_v _ (by decide)]; exact q4
        · rw [e4, up3_v _ (by decide)]; exact q5
      refine am_goN vX2_passes 7 ?_
      refine And.intro ⟨by omega, by omega⟩ ?_
      rw [h3n]
      refine s_cstore b4 hx4 (by omega) row4.1 (fun I5 K5 q1 q2 q3 q4 => ?_)
      refine am_goN vX2_passes 3 ?_
      refine ⟨Or.inr rfl, hy _ rfl I5 (B4.tr (K5.b (by decide))) ⟨q1, q2, q3, q4, ?_, ?_⟩⟩
      · rw [K5 _ _ _ (Or.inl rfl), f4 _ _ (V1_out (vs := [86]) (by decide) _ (by decide) _)]; exact kn3
      · rw [K5 _ _ _ (Or.inl rfl), f4 _ _ (V1_out (vs := [87]) (by decide) _ (by decide) _)]; exact sm3
  · rw [h4, zI_toInt (by omega) (by omega)] at c
    omega
