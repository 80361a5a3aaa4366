/-! The class follows a ball: the loop. -/
def nols : Nat → Int := fun _ => 0
theorem nols_ok : LSok nols := fun _ => ⟨Int.le_refl 0, by unfold nols; omega⟩
theorem PathAt.vf {I I' : II} {R : RR} {r : Nat} {rn : RUN} {f q : Nat} (h : PathAt I R r rn) (hf : FrI (VF f q) I I') : PathAt I' R r rn := by
  refine h.fr hf (fun v hv i => VF_out ?_ ?_)
  · have : rvars.all (fun v => !fvars.elem v) = true := by decide
    have h1 := List.all_eq_true.mp this v hv
    simpa using h1
  · have : rvars.all (fun v => !(0 :: bvars).elem v) = true := by decide
    have h1 := List.all_eq_true.mp this v hv
    simpa using h1
theorem BoardAt.vf {I I' : II} {b : Nat} {x : BD} {f q : Nat} (h : BoardAt I b x) (hf : FrI (VF f q) I I') : BoardAt I' b x := by
  obtain ⟨h1, h2, h3, h4, h5⟩ := h
  refine ⟨?_, ?_, ?_, ?_, ?_⟩ <;> rw [hf _ _ (VF_out (by decide) (by decide))] <;> assumption
set_option maxRecDepth 100000 in
theorem cfollow_loop {Γ : AMG} {Q : QQ} {d f r : Nat} {g : Int32} {I : II} {Lg : LJ} {R : RR} {gc : Nat → Nat} {rn : RUN} (hrn : RUNok rn) (hP : PathAt I R r rn) :
    ∀ (m : Nat) (t : Int) (x3 : Int32) (l4 : Option AV) (S : FS) (I1 : II) (a b : Int), t + m = 2001 → 1 ≤ t → x3 = zI t → FSok rn S → S.en = -1 → FrI (VF f f) I I1 → CFS I1 f S.fa S.en S.jm S.ks → BallAt I1 f (S.pl, S.pt, S.sp, a, b) →
      (∀ I' : II, FrI (VF f f) I I' → CFS I' f (foll rn g nols m t S).fa (foll rn g nols m t S).en (foll rn g nols m t S).jm (foll rn g nols m t S).ks → Q none I' Lg R (GM gc)) →
      am_J Γ mX4_follow Q (d + 2) 0 0 30 [some (vR 4 f), some (vR 7 r), some (vI g), some (vI x3), l4] [] I1 Lg R (GM gc) := by
  intro m
  induction m with
  | zero =>
    intro t x3 l4 S I1 a b hm ht hx hok hen hf hc hb h
    refine am_goN vX4_follow 20 ?_
    refine And.intro (fun c => ?_) (fun c => ?_)
    · exact h I1 hf hc
    · rw [hx, zI_toInt (by omega) (by omega), zI_toInt (by omega) (by omega)] at c
      omega
  | succ m ih =>
    intro t x3 l4 S I1 a b hm ht hx hok hen hf hc hb h
    refine am_J.er [true, true, true, true, false] ?_
    obtain ⟨hbs, hk⟩ := hok.1 hen
    have hok' := fstep_ok (g := g) hrn nols_ok ht hen hok
    obtain ⟨q1, q2, q3, q4, q5, q6, q7⟩ := tickB_ok (g := g) hrn nols_ok hbs
    have hl := hrn.1
    have hpl0 := hbs.1.1
    have hpl1 := hbs.1.2.1
    have hpt0 := hbs.1.2.2.1
    have hpt1 := hbs.1.2.2.2.1
    have hsp0 := hbs.1.2.2.2.2.1
    have hsp1 := hbs.1.2.2.2.2.2
    unfold foll at h
    rw [if_pos hen] at h
    have hfa0 := hok.2.2.1
    have hfa1 := hok.2.2.2
    have hkl := hok.2.1
    have he : rn[S.pl.toNat]? = some rn[S.pl.toNat] := List.getElem?_eq_getElem (by omega)
    generalize rn[S.pl.toNat] = e at he
    have hbk := (hrn.2 _ e he).1
    have hpe := hbs.2 e he
    have hpb := hbk.2.1
    have hss := spd_rng (s := S.sp) hbk
    have hb255 : -1 ≤ (tickB rn g nols S.pl S.pt S.sp).1 ∧ (tickB rn g nols S.pl S.pt S.sp).1 ≤ 255 := by
      rcases q1 with q | q
      · omega
      · have := q.1.1
        have := q.1.2.1
        omega
    have hB' : tickB rn g nols S.pl S.pt S.sp = if S.pt + spd e.1 S.sp < e.1.1 then (S.pl, S.pt + spd e.1 S.sp, spd e.1 S.sp, 0, 0) else
      ((land rn g 12 (nx rn g S.pl) (lvP e.1 e.1.2.2.2.1 (S.pt + spd e.1 S.sp) (spd e.1 S.sp))).1, (land rn g 12 (nx rn g S.pl) (lvP e.1 e.1.2.2.2.1 (S.pt + spd e.1 S.sp) (spd e.1 S.sp))).2.1, lvS e.1 (spd e.1 S.sp), lvK e.1.2.2.2.1 (spd e.1 S.sp), (land rn g 12 (nx rn g S.pl) (lvP e.1 e.1.2.2.2.1 (S.pt + spd e.1 S.sp) (spd e.1 S.sp))).2.2) := by
      have hz : max 0 (e.1.2.2.2.1 - nols S.pl.toNat) = e.1.2.2.2.1 := by
        have := hbk.2.2.2.2.2.2.1
        unfold nols
        omega
      unfold tickB
      rw [he]
      dsimp only
      rw [hz]
    have efa : (fstep rn g nols t S).fa = max S.fa (tickB rn g nols S.pl S.pt S.sp).2.2.1 := rfl
    have een : (fstep rn g nols t S).en = if (tickB rn g nols S.pl S.pt S.sp).1 = 255 then t else -1 := rfl
    have epl : (fstep rn g nols t S).pl = (tickB rn g nols S.pl S.pt S.sp).1 := rfl
    have ept : (fstep rn g nols t S).pt = (tickB rn g nols S.pl S.pt S.sp).2.1 := rfl
    have esp : (fstep rn g nols t S).sp = (tickB rn g nols S.pl S.pt S.sp).2.2.1 := rfl
    have ejm : (fstep rn g nols t S).jm = S.jm + (tickB rn g nols S.pl S.pt S.sp).2.2.2.2 := rfl
    have eks : (fstep rn g nols t S).ks = if 0 < (tickB rn g nols S.pl S.pt S.sp).2.2.2.1 then S.ks ++ [(t, S.pl, (tickB rn g nols S.pl S.pt S.sp).2.2.2.1)] else S.ks := rfl
    have k112 : ∀ (I2 : II) (l : Option AV) (a b : Int), FrI (VF f f) I I2 → CFS I2 f S.fa (-1) (fstep rn g nols t S).jm (fstep rn g nols t S).ks → BallAt I2 f ((tickB rn g nols S.pl S.pt S.sp).1, (tickB rn g nols S.pl S.pt S.sp).2.1, (tickB rn g nols S.pl S.pt S.sp).2.2.1, a, b) →
        am_J Γ mX4_follow Q (d + 2) 0 0 112 [some (vR 4 f), some (vR 7 r), some (vI g), some (vI x3), l] [] I2 Lg R (GM gc) := by
      intro I2 l a b f2 c2 b2
      refine am_J.er [true, true, true, true, false] ?_
      obtain ⟨c21, c22, c23, c24, c25⟩ := c2
      refine am_goN vX4_follow 60 ?_
      refine fun y1 ey1 I3 e3 => ?_
      have ff : FrI (V1 [22] f) I2 I3 := by rw [e3]; exact FrI.rf.up (V1_in rfl)
      have f3 : FrI (VF f f) I I3 := f2.tr (ff.toVFf (by decide))
      have b3 : BallAt I3 f ((tickB rn g nols S.pl S.pt S.sp).1, (tickB rn g nols S.pl S.pt S.sp).2.1, (tickB rn g nols S.pl S.pt S.sp).2.2.1, a, b) := b2.fr ff (fun v hv => V1_out (by decide) v hv f)
      have c3 : CFS I3 f (fstep rn g nols t S).fa (-1) (fstep rn g nols t S).jm (fstep rn g nols t S).ks := by
        refine ⟨?_, by rw [ff _ _ rfl]; exact c22, by rw [ff _ _ rfl]; exact c23, by rw [ff _ _ rfl]; exact c24, c25.frl ff rfl rfl rfl⟩
        rw [e3, up3_s, ey1, c21, b2.2.2.1, am_max_z (by omega) (by omega) (by show _ ≤ (tickB rn g nols S.pl S.pt S.sp).2.2.1; omega) (by show (tickB rn g nols S.pl S.pt S.sp).2.2.1 < _; omega), efa]
      have hpl : (I3 1 f 0).toInt = (tickB rn g nols S.pl S.pt S.sp).1 := by rw [b3.1, zI_toInt (by show _ ≤ (tickB rn g nols S.pl S.pt S.sp).1; omega) (by show (tickB rn g nols S.pl S.pt S.sp).1 < _; omega)]
      refine And.intro (fun c => ?_) (fun c => ?_)
      · rw [hpl, zI_toInt (by omega) (by omega)] at c
        have hen' : (fstep rn g nols t S).en = -1 := by rw [een, if_neg c]
        refine s_atRest b3 q2 q3 (fun hy => ?_) (fun hn => ?_)
        · refine And.intro (fun c4 => ?_) (fun c4 => ?_)
          · rw [zI_toInt (by omega) (by omega)] at c4
            omega
          · have hy : (tickB rn g nols S.pl S.pt S.sp).2.2.1 = 0 := hy
            have hls2 := lvS_rng (s := spd e.1 S.sp) hbk hss.1
            have hlt : S.pt + spd e.1 S.sp < e.1.1 := by
              refine Decidable.byContradiction (fun q => ?_)
              rw [hB', if_neg q] at hy
              have hy : lvS e.1 (spd e.1 S.sp) = 0 := hy
              omega
            have hB2 := hB'
            rw [if_pos hlt] at hB2
            have hz : spd e.1 S.sp = 0 := by rw [hB2] at hy; exact hy
            have hz0 := spd_z hbk hsp0 hz
            have hS : foll rn g nols m (t + 1) (fstep rn g nols t S) = fstep rn g nols t S := foll_rest (e := e) (by rw [epl, hB2]; exact he) (by rw [ept, hB2]; exact hlt) (by rw [esp]; exact hy) hz0 hen' hok'.2.2.1 (by rw [epl]; exact c) m (t + 1)
            rw [hS] at h
            exact h I3 f3 (by rw [hen']; exact c3)
        · refine And.intro (fun c4 => ?_) (fun c4 => ?_)
          · refine fun y ey => ?_
            exact ih (t + 1) y _ (fstep rn g nols t S) I3 a b (by omega) (by omega) (by rw [ey, hx, zI_add]) hok' hen' f3 (by rw [hen']; exact c3) b3 h
          · rw [zI_toInt (by omega) (by omega)] at c4
            omega
      · rw [hpl, zI_toInt (by omega) (by omega)] at c
        have c' : (tickB rn g nols S.pl S.pt S.sp).1 = 255 := by omega
        refine fun y ey I4 e4 => ?_
        have hen' : (fstep rn g nols t S).en = t := by rw [een, if_pos c']
        rw [foll_end (by rw [hen']; omega)] at h
        have ff4 : FrI (V1 [20] f) I3 I4 := by rw [e4]; exact FrI.rf.up (V1_in rfl)
        obtain ⟨d1, d2, d3, d4, d5⟩ := c3
        refine h I4 (f3.tr (ff4.toVFf (by decide))) ⟨by rw [ff4 _ _ rfl]; exact d1, by rw [e4, up3_s, ey, hx, hen'], by rw [ff4 _ _ rfl]; exact d3, by rw [ff4 _ _ rfl]; exact d4, d5.frl ff4 rfl rfl rfl⟩
    refine am_goN vX4_follow (17 - 1) ?_
    refine And.intro (fun c => ?_) (fun c => ?_)
    · rw [hx, zI_toInt (by omega) (by omega), zI_toInt (by omega) (by omega)] at c
      omega
    refine s_boardAt hrn (hP.vf hf) hb.1 hpl0 (by show S.pl ≤ _; omega) (fun e' bo he' hR hBo => ?_) (fun hn => ?_)
    · have he' : rn[S.pl.toNat]? = some e' := he'
      rw [he] at he'
      cases he'
      refine s_rolls hbk hBo hb hsp0 hsp1 hpt0 (by show S.pt ≤ _; omega) (fun I2 f2 b2 => ⟨fun hov => ?_, fun hov => ?_⟩)
      · have hov : e.1.1 ≤ S.pt + spd e.1 S.sp := hov
        have f2' : FrI (VF f f) I I2 := hf.tr (f2.toVF (by decide))
        refine And.intro (fun c4 => ?_) (fun c4 => ?_)
        · rw [zI_toInt (by omega) (by omega)] at c4
          omega
        have hB2 := hB'
        rw [if_neg (by omega)] at hB2
        have hBo2 : BoardAt I2 bo e.1 := hBo.vf (f2.toVF (f := f) (by decide))
        have hcf2 : CFS I2 f S.fa S.en S.jm S.ks := hc.fr f2 (fun v hv => V1_out (by decide) v hv f)
        have hdr0 := hbk.2.2.2.2.2.2.1
        have hdr1 := hbk.2.2.2.2.2.2.2.1
        refine am_goN vX4_follow 22 ?_
        refine s_falls hbk hBo2 b2 hss.1 hss.2 (by show 0 ≤ S.pt + spd e.1 S.sp; omega) (by show S.pt + spd e.1 S.sp ≤ _; omega) hdr0 hdr1 hBo2.2.2.2.1 (fun I3 f3 b3 => ?_)
        have f3' : FrI (VF f f) I I3 := f2'.tr (f3.toVF (by decide))
        have hcf3 : CFS I3 f S.fa S.en S.jm S.ks := hcf2.fr f3 (fun v hv => V1_out (by decide) v hv f)
        have hlk : (tickB rn g nols S.pl S.pt S.sp).2.2.2.1 = lvK e.1.2.2.2.1 (spd e.1 S.sp) := by rw [hB2]
        refine s_hear (t := t) (p := S.pl) (s := lvK e.1.2.2.2.1 (spd e.1 S.sp)) (ks := S.ks) hx b2.1 rfl (by omega) (by omega) (by omega) hcf3.2.2.2.1 hcf3.2.2.2.2 (fun I4 f4 n4 k4 => ?_)
        have f4' : FrI (VF f f) I I4 := f3'.tr (f4.toVFf (by decide))
        have b4 : BallAt I4 f _ := b3.fr f4 (fun v hv => V1_out (by decide) v hv f)
        have hlv := lvS_rng (s := spd e.1 S.sp) hbk hss.1
        have hlP := lvP_rng hbk hdr0 hdr1 hss.1 hss.2 hov (by omega)
        refine s_carryOn hrn (hP.vf f4') b4 hpl0 (by show S.pl ≤ _; omega) hlP.1 (by have := hlP.2; show lvP e.1 e.1.2.2.2.1 (S.pt + spd e.1 S.sp) (spd e.1 S.sp) ≤ _; omega) (fun I5 f5 b5 => ?_)
        have f5' : FrI (VF f f) I I5 := f4'.tr (f5.toVF (by decide))
        refine fun y ey I6 e6 => ?_
        have f6 : FrI (V1 [21] f) I5 I6 := by rw [e6]; exact FrI.rf.up (V1_in rfl)
        have eks' := eks
        rw [hlk] at eks'
        have k5 : KAt I5 102 103 104 f (fstep rn g nols t S).ks := by rw [eks']; exact k4.frl f5 rfl rfl rfl
        refine k112 I6 _ S.pl S.pt (f5'.tr (f6.toVFf (by decide))) ⟨?_, ?_, ?_, ?_, k5.frl f6 rfl rfl rfl⟩ ?_
        · rw [f6 _ _ rfl, f5 _ _ rfl, f4 _ _ rfl]; exact hcf3.1
        · rw [f6 _ _ rfl, f5 _ _ rfl, f4 _ _ rfl, hcf3.2.1, hen]
        · rw [e6, up3_s, ey, f4 _ _ rfl, hcf3.2.2.1, zI_add, ejm, hB2]
        · rw [f6 _ _ rfl, f5 _ _ rfl, n4, eks']
        · rw [hB2]
          exact b5.fr f6 (fun v hv => V1_out (by decide) v hv f)
      · have hov : S.pt + spd e.1 S.sp < e.1.1 := hov
        refine And.intro (fun c4 => ?_) (fun c4 => ?_)
        · have hB2 := hB'
          rw [if_pos hov] at hB2
          refine k112 I2 _ S.pl S.pt (hf.tr (f2.toVF (by decide))) ?_ (by rw [hB2]; exact b2)
          have hcf2 : CFS I2 f S.fa S.en S.jm S.ks := hc.fr f2 (fun v hv => V1_out (by decide) v hv f)
          rw [ejm, eks, hB2, if_neg (show ¬ (0 : Int) < 0 by decide), ← hen]
          show CFS I2 f S.fa S.en (S.jm + 0) S.ks
          rw [Int.add_zero]
          exact hcf2
        · rw [zI_toInt (by omega) (by omega)] at c4
          omega
    · have hn : rn[S.pl.toNat]? = none := hn
      rw [he] at hn
      cases hn
set_option maxRecDepth 100000 in
theorem s_cfollow {Γ : AMG} {Q : QQ} {d f r : Nat} {g : Int32} {I : II} {Lg : LJ} {R : RR} {gc : Nat → Nat} {rn : RUN} (hrn : RUNok rn) (hn : 0 < rn.length) (hP : PathAt I R r rn)
    (h : ∀ I' : II, FrI (VF f f) I I' → CFS I' f (fall9 rn g nols).fa (fall9 rn g nols).en (fall9 rn g nols).jm (fall9 rn g nols).ks → Q none I' Lg R (GM gc)) :
    am_Sp Γ (d + 2) 0 0 mX4_follow [vR 4 f, vR 7 r, vI g] I Lg R (GM gc) Q := by
  refine am_runN vX4_follow 60 _ rfl rfl rfl rfl ?_
  refine fun y1 ey1 I1 e1 y2 ey2 I2 e2 y3 ey3 I3 e3 y4 ey4 I4 e4 => ?_
  have hf : FrI (VF f f) I I4 := by
    rw [e4, e3, e2, e1]
    exact (((FrI.rf.up (VF_f rfl)).up (VF_f rfl)).up (VF_f rfl)).up (VF_f rfl)
  refine s_letGoOn (fun I5 f5 r5 b5 => ?_)
  refine fun x3 ex3 => ?_
  refine cfollow_loop hrn hP 2000 1 x3 _ FS0 I5 0 0 rfl (by omega) ex3 ⟨fun _ => ⟨⟨⟨by decide, by show (0 : Int) < _; omega, by decide, by decide, by decide, by decide⟩, fun e he => ?_⟩, by decide⟩, by decide, by decide, by decide⟩ rfl (hf.tr (f5.toVF (by decide))) ⟨?_, ?_, ?_, ?_, fun k e he => by cases he⟩ b5 h
  · show (0 : Int) < _
    have := (hrn.2 _ e he).1.1
    omega
  · rw [f5 _ _ rfl, e4, up3_s, ey4]; rfl
  · rw [f5 _ _ rfl, e4, up3_v _ (by decide), e3, up3_v _ (by decide), e2, up3_s, ey2]; rfl
  · rw [f5 _ _ rfl, e4, up3_v _ (by decide), e3, up3_s, ey3]; rfl
  · rw [f5 _ _ rfl, e4, up3_v _ (by decide), e3, up3_v _ (by decide), e2, up3_v _ (by decide), e1, up3_s, ey1]; rfl
