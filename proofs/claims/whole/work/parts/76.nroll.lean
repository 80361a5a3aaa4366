/-! The class's night: a ball rolls. -/
abbrev cntv : List Nat := [27, 28, 29, 25, 26, 24, 109, 110, 111]
theorem CNtAt.fr {I I' : II} {P : Nat → Nat → Bool} {t : NT} {ks : KS} (h : CNtAt I t ks) (hf : FrI P I I') (hP : ∀ v ∈ cntv, P v 0 = false) : CNtAt I' t ks := by
  obtain ⟨h1, h2, h3, h4, h5, h6, h7, h8⟩ := h
  refine ⟨?_, ?_, ?_, ?_, ?_, ?_, h7, h8.frl hf (hP _ (by decide)) (hP _ (by decide)) (hP _ (by decide))⟩ <;> rw [hf _ _ (hP _ (by decide))] <;> assumption
def CNAt (I : II) (S : NST) : Prop := CNtAt I S.1 S.2
theorem CNAt.end_ {I I' : II} {S : NST} {x : Int32} (h : CNAt I S) (e : I' = up3 I 28 0 0 x) (hx : x = I 28 0 0 + zI 1) : CNAt I' (endN S) := by
  obtain ⟨h1, h2, h3, h4, h5, h6, h7, h8⟩ := h
  have ff : FrI (V0 [28]) I I' := by rw [e]; exact FrI.rf.up rfl
  exact ⟨by rw [ff _ _ rfl]; exact h1, by rw [e, up3_s, hx, h2]; rfl, by rw [ff _ _ rfl]; exact h3, by rw [ff _ _ rfl]; exact h4, by rw [ff _ _ rfl]; exact h5, by rw [ff _ _ rfl]; exact h6, h7, h8.frl ff rfl rfl rfl⟩
theorem CNAt.bump {I I' : II} {S : NST} {x : Int32} (h : CNAt I S) (e : I' = up3 I 29 0 0 x) (hx : x = I 29 0 0 + zI 1) : CNAt I' (bumpN S) := by
  obtain ⟨h1, h2, h3, h4, h5, h6, h7, h8⟩ := h
  have ff : FrI (V0 [29]) I I' := by rw [e]; exact FrI.rf.up rfl
  exact ⟨by rw [ff _ _ rfl]; exact h1, by rw [ff _ _ rfl]; exact h2, by rw [e, up3_s, hx, h3]; rfl, by rw [ff _ _ rfl]; exact h4, by rw [ff _ _ rfl]; exact h5, by rw [ff _ _ rfl]; exact h6, h7, h8.frl ff rfl rfl rfl⟩
theorem CNAt.let_ {I I' : II} {S : NST} {x : Int32} (h : CNAt I S) (e : I' = up3 I 27 0 0 x) (hx : x = I 27 0 0 + zI 1) : CNAt I' (letN S) := by
  obtain ⟨h1, h2, h3, h4, h5, h6, h7, h8⟩ := h
  have ff : FrI (V0 [27]) I I' := by rw [e]; exact FrI.rf.up rfl
  exact ⟨by rw [e, up3_s, hx, h1]; rfl, by rw [ff _ _ rfl]; exact h2, by rw [ff _ _ rfl]; exact h3, by rw [ff _ _ rfl]; exact h4, by rw [ff _ _ rfl]; exact h5, by rw [ff _ _ rfl]; exact h6, h7, h8.frl ff rfl rfl rfl⟩
set_option maxRecDepth 100000 in
theorem s_nhear0 {Γ : AMG} {Q : QQ} {d : Nat} {x2 x3 : Int32} {I : II} {Lg : LJ} {R : RR} {gc : Nat → Nat} (h3 : x3.toInt ≤ 0) (h : Q none I Lg R (GM gc)) : am_Sp Γ d 0 0 mX6_hear [vR 6 0, vI x2, vI x3] I Lg R (GM gc) Q := by
  refine am_runN vX6_hear 3 _ rfl rfl rfl rfl ?_
  refine And.intro (fun c => ?_) (fun c => ?_)
  · omega
  · exact h
/-- heard, if it is anything -/
theorem s_nhearS {Γ : AMG} {Q : QQ} {d : Nat} {x2 x3 : Int32} {a b s : Int} {I : II} {Lg : LJ} {R : RR} {gc : Nat → Nat} {S : NST} (hc : CNAt I S) (h1 : I 30 0 0 = zI a) (h2 : x2 = zI b) (h3 : x3 = zI s) (hs0 : 0 ≤ s) (hs1 : s < 1000000)
    (h : ∀ I' : II, FrI (V0 nvc) I I' → CNAt I' (if 0 < s then hearN S (a, b, s) else S) → Q none I' Lg R (GM gc)) : am_Sp Γ d 0 0 mX6_hear [vR 6 0, vI x2, vI x3] I Lg R (GM gc) Q := by
  by_cases q : 0 < s
  · rw [if_pos q] at h
    exact s_nhear hc h1 h2 h3 q hs1 h
  · rw [if_neg q] at h
    exact s_nhear0 (by rw [h3, zI_toInt (by omega) (by omega)]; omega) (h I FrI.rf hc)
def CBall (I : II) (k : Nat) (b : NB) : Prop := I 0 (2 + k) 0 = zI b.1 ∧ I 1 (2 + k) 0 = zI b.2.1 ∧ I 2 (2 + k) 0 = zI b.2.2.1 ∧ I 3 (2 + k) 0 = zI b.2.2.2
def CAhd (I : II) (k : Nat) (o n : NB) : Prop := n.2.1 ≠ 255 → I 4 (2 + k) 0 = zI o.2.1 ∧ I 5 (2 + k) 0 = zI o.2.2.1
abbrev rlv : List Nat := [24, 25, 26, 109, 110, 111, 28, 31]
abbrev blv : List Nat := [0, 1, 2, 3, 4, 5]
def VRL (k : Nat) : Nat → Nat → Bool := fun v i => V0 rlv v i || V1 blv (2 + k) v i
theorem VRL_n {k v i : Nat} (h : rlv.elem v = true) : VRL k v i = true := by unfold VRL V0; rw [h]; rfl
theorem VRL_out {k : Nat} {vs : List Nat} (h : vs.all (fun v => !rlv.elem v && !blv.elem v) = true) : ∀ v ∈ vs, ∀ i, VRL k v i = false := by
  intro v hv i
  have h1 := List.all_eq_true.mp h v hv
  rw [Bool.and_eq_true, Bool.not_eq_true', Bool.not_eq_true'] at h1
  unfold VRL V0 V1
  rw [h1.1, h1.2]
  rfl
theorem FrI.toRN {I I' : II} {k : Nat} {l : List Nat} (h : FrI (V0 l) I I') (hl : l.all (fun v => rlv.elem v) = true) : FrI (VRL k) I I' := h.mono (fun v i hv => V0_sub hl (by unfold VRL at hv; exact (Bool.or_eq_false_iff.mp hv).1))
theorem FrI.toRB {I I' : II} {k : Nat} {l : List Nat} (h : FrI (V1 l (2 + k)) I I') (hl : l.all (fun v => blv.elem v) = true) : FrI (VRL k) I I' := h.mono (fun v i hv => V1_sub hl (by unfold VRL at hv; exact (Bool.or_eq_false_iff.mp hv).2))
theorem PathAt.rl {I I' : II} {R : RR} {r : Nat} {rn : RUN} {k : Nat} (h : PathAt I R r rn) (hf : FrI (VRL k) I I') : PathAt I' R r rn := h.fr hf (VRL_out (by decide))
theorem V0_outI {l vs : List Nat} (h : vs.all (fun v => !l.elem v) = true) : ∀ v ∈ vs, ∀ i, V0 l v i = false := by
  intro v hv i
  have := List.all_eq_true.mp h v hv
  unfold V0
  simpa using this
/-- behind the tick: does it end, is it at rest -/
theorem roll89 {Γ : AMG} {Q : QQ} {d k r bo : Nat} {l4 : Option AV} {I I1 : II} {Lg : LJ} {R : RR} {gc : Nat → Nat} {S : NST} {pl pt sp pa ta : Int} (hf : FrI (VRL k) I I1) (hb : BallAt I1 (2 + k) (pl, pt, sp, pa, ta)) (hS : CNAt I1 S) (h0 : 0 ≤ pl) (h1 : pl ≤ 255) (hs0 : 0 ≤ sp) (hs1 : sp ≤ 1023)
    {x9 : Int32} (hrun : I1 0 (2 + k) 0 = x9) (hst : I1 31 0 0 = I 31 0 0) (h : ∀ I' : II, FrI (VRL k) I I' → I' 0 (2 + k) 0 = x9 → BallAt I' (2 + k) (pl, pt, sp, pa, ta) → CNAt I' (if pl = 255 then endN S else S) → I' 31 0 0 = (if pl = 255 ∨ sp = 0 then I 31 0 0 else zI 0) → Q none I' Lg R (GM gc)) :
    am_J Γ mX6_roll Q (d + 1) 0 0 89 [some (vR 6 0), some (vR 0 (2 + k)), some (vR 7 r), some (vR 1 bo), l4] [] I1 Lg R (GM gc) := by
  have hpl : (I1 1 (2 + k) 0).toInt = pl := by rw [hb.1, zI_toInt (by show _ ≤ pl; omega) (by show pl < _; omega)]
  refine am_goN vX6_roll 60 ?_
  refine And.intro (fun c => ?_) (fun c => ?_)
  · rw [hpl, zI_toInt (by omega) (by omega)] at c
    refine s_atRest hb hs0 hs1 (fun hy => ?_) (fun hn => ?_)
    · have hy : sp = 0 := hy
      refine And.intro (fun c2 => ?_) (fun c2 => ?_)
      · exact h I1 hf hrun hb (by rw [if_neg c]; exact hS) (by rw [if_pos (Or.inr hy)]; exact hst)
      · rw [zI_toInt (by omega) (by omega)] at c2
        omega
    · have hn : sp ≠ 0 := hn
      refine And.intro (fun c2 => ?_) (fun c2 => ?_)
      · rw [zI_toInt (by omega) (by omega)] at c2
        omega
      · refine And.intro (Or.inl rfl) ?_
        refine fun y ey I2 e2 => ?_
        have ff : FrI (V0 [31]) I1 I2 := by rw [e2]; exact FrI.rf.up rfl
        refine h I2 (hf.tr (ff.toRN (by decide))) (by rw [ff _ _ rfl]; exact hrun) (hb.fr ff (fun v hv => V0_outI (by decide) v hv _)) (by rw [if_neg c]; exact hS.fr ff (V0_out (by decide))) ?_
        rw [if_neg (by omega), e2, up3_s, ey]
  · rw [hpl, zI_toInt (by omega) (by omega)] at c
    refine fun y ey I2 e2 => ?_
    have ff : FrI (V0 [28]) I1 I2 := by rw [e2]; exact FrI.rf.up rfl
    refine h I2 (hf.tr (ff.toRN (by decide))) (by rw [ff _ _ rfl]; exact hrun) (hb.fr ff (fun v hv => V0_outI (by decide) v hv _)) (by rw [if_pos (by omega)]; exact hS.end_ e2 ey) ?_
    rw [if_pos (Or.inl (by omega)), ff _ _ rfl]
    exact hst
set_option maxRecDepth 100000 in
theorem s_roll {Γ : AMG} {Q : QQ} {d k r : Nat} {I : II} {Lg : LJ} {R : RR} {gc : Nat → Nat} {rn : Nat → RUN} {gs : Nat → Int32} {b : NB} {S : NST} {tk : Int} (hrn : RNSok rn) (hr : r < 4) (hbr : b.1 = r) (hP : PathAt I R r (rn r)) (hb : CBall I k b) (hok : NBok rn b) (hpit : b.2.1 ≠ 255) (hg : I 112 0 r = gs r) (hnow : I 30 0 0 = zI tk) (hS : CNAt I S)
    (h : ∀ I' : II, FrI (VRL k) I I' → CBall I' k (stpB rn gs b) → CAhd I' k b (stpB rn gs b) → CNAt I' (rollN rn gs tk b S) → I' 31 0 0 = (if (stpB rn gs b).2.1 = 255 ∨ (stpB rn gs b).2.2.2 = 0 then I 31 0 0 else zI 0) → Q none I' Lg R (GM gc)) :
    am_Sp Γ (d + 3) 0 0 mX6_roll [vR 6 0, vR 0 (2 + k), vR 7 r] I Lg R (GM gc) Q := by
  obtain ⟨g1, g2, g3, g4, g5, g6, g7, g8⟩ := id hok
  have hrr : b.1.toNat = r := by omega
  have hbs := g8.resolve_left hpit
  rw [hrr] at hbs
  have hrun := hrn r hr
  obtain ⟨⟨p0, p1, p2, p3, p4, p5⟩, p6⟩ := id hbs
  have hl := hrun.1
  have he : (rn r)[b.2.1.toNat]? = some (rn r)[b.2.1.toNat] := List.getElem?_eq_getElem (by omega)
  generalize (rn r)[b.2.1.toNat] = e at he
  have hbk := (hrun.2 _ e he).1
  have hpe := p6 e he
  have hpb := hbk.2.1
  have hss := spd_rng (s := b.2.2.2) hbk
  have hdr0 := hbk.2.2.2.2.2.2.1
  have hdr1 := hbk.2.2.2.2.2.2.2.1
  obtain ⟨q1, q2, q3, q4, q5, q6, q7⟩ := tickB_ok (g := gs r) hrun nols_ok hbs
  have hB' : tickB (rn r) (gs r) nols b.2.1 b.2.2.1 b.2.2.2 = if b.2.2.1 + spd e.1 b.2.2.2 < e.1.1 then (b.2.1, b.2.2.1 + spd e.1 b.2.2.2, spd e.1 b.2.2.2, 0, 0) else
      ((land (rn r) (gs r) 12 (nx (rn r) (gs r) b.2.1) (lvP e.1 e.1.2.2.2.1 (b.2.2.1 + spd e.1 b.2.2.2) (spd e.1 b.2.2.2))).1, (land (rn r) (gs r) 12 (nx (rn r) (gs r) b.2.1) (lvP e.1 e.1.2.2.2.1 (b.2.2.1 + spd e.1 b.2.2.2) (spd e.1 b.2.2.2))).2.1, lvS e.1 (spd e.1 b.2.2.2), lvK e.1.2.2.2.1 (spd e.1 b.2.2.2), (land (rn r) (gs r) 12 (nx (rn r) (gs r) b.2.1) (lvP e.1 e.1.2.2.2.1 (b.2.2.1 + spd e.1 b.2.2.2) (spd e.1 b.2.2.2))).2.2) := by
    have hz : max 0 (e.1.2.2.2.1 - nols b.2.1.toNat) = e.1.2.2.2.1 := by
      unfold nols
      omega
    unfold tickB
    rw [he]
    dsimp only
    rw [hz]
  have hst : stpB rn gs b = (b.1, (tickB (rn r) (gs r) nols b.2.1 b.2.2.1 b.2.2.2).1, (tickB (rn r) (gs r) nols b.2.1 b.2.2.1 b.2.2.2).2.1, (tickB (rn r) (gs r) nols b.2.1 b.2.2.1 b.2.2.2).2.2.1) := by
    unfold stpB
    rw [if_neg hpit, hrr]
  have hsS : stpS rn gs b = (tickB (rn r) (gs r) nols b.2.1 b.2.2.1 b.2.2.2).2.2.2.1 := by
    unfold stpS
    rw [if_neg hpit, hrr]
  have hRN : rollN rn gs tk b S = if (tickB (rn r) (gs r) nols b.2.1 b.2.2.1 b.2.2.2).1 = 255 then endN (if 0 < (tickB (rn r) (gs r) nols b.2.1 b.2.2.1 b.2.2.2).2.2.2.1 then hearN S (tk, 100 * b.1 + b.2.1 + 100, (tickB (rn r) (gs r) nols b.2.1 b.2.2.1 b.2.2.2).2.2.2.1) else S) else (if 0 < (tickB (rn r) (gs r) nols b.2.1 b.2.2.1 b.2.2.2).2.2.2.1 then hearN S (tk, 100 * b.1 + b.2.1 + 100, (tickB (rn r) (gs r) nols b.2.1 b.2.2.1 b.2.2.2).2.2.2.1) else S) := by
    unfold rollN rollN1
    rw [hst, hsS]
    by_cases q : (tickB (rn r) (gs r) nols b.2.1 b.2.2.1 b.2.2.2).1 = 255
    · rw [if_pos ⟨hpit, q⟩, if_pos q]
    · rw [if_neg (fun z => q z.2), if_neg q]
  rw [hst, hRN] at h
  generalize hT : tickB (rn r) (gs r) nols b.2.1 b.2.2.1 b.2.2.2 = T at *
  have hT1 : 0 ≤ T.1 ∧ T.1 ≤ 255 := by
    rcases q1 with q | q
    · omega
    · have := q.1.1
      have := q.1.2.1
      omega
  have k89 : ∀ (I2 : II) (l4 : Option AV) (bo : Nat), FrI (VRL k) I I2 → I2 0 (2 + k) 0 = zI b.1 → BallAt I2 (2 + k) (T.1, T.2.1, T.2.2.1, b.2.1, b.2.2.1) → CNAt I2 (if 0 < T.2.2.2.1 then hearN S (tk, 100 * b.1 + b.2.1 + 100, T.2.2.2.1) else S) → I2 31 0 0 = I 31 0 0 →
      am_J Γ mX6_roll Q (d + 3) 0 0 89 [some (vR 6 0), some (vR 0 (2 + k)), some (vR 7 r), some (vR 1 bo), l4] [] I2 Lg R (GM gc) := by
    intro I2 l4 bo f2 r2 b2 s2 t2
    refine roll89 (d := d + 2) (I := I2) FrI.rf b2 s2 hT1.1 hT1.2 q2 q3 r2 rfl (fun I3 f3 r3 b3 s3 t3 => ?_)
    refine h I3 (f2.tr f3) ⟨r3, b3.1, b3.2.1, b3.2.2.1⟩ (fun _ => ⟨b3.2.2.2.1, b3.2.2.2.2⟩) s3 (by rw [t3, t2])
  obtain ⟨b1, b2, b3, b4⟩ := hb
  have hball : BallAt I (2 + k) (b.2.1, b.2.2.1, b.2.2.2, (I 4 (2 + k) 0).toInt, (I 5 (2 + k) 0).toInt) := ⟨b2, b3, b4, (zI_self _).symm, (zI_self _).symm⟩
  refine am_runN vX6_roll 13 _ rfl rfl rfl rfl ?_
  refine s_boardAt hrun hP b2 p0 (by omega) (fun e' bo he' hR hBo => ?_) (fun hn => ?_)
  · rw [he] at he'
    cases he'
    refine s_rolls hbk hBo hball p4 p5 g4 (by show b.2.2.1 ≤ _; omega) (fun I2 f2 c2 => ⟨fun hov => ?_, fun hov => ?_⟩)
    · have hov : e.1.1 ≤ b.2.2.1 + spd e.1 b.2.2.2 := hov
      have f2' : FrI (VRL k) I I2 := f2.toRB (by decide)
      refine And.intro (fun c => ?_) (fun c => ?_)
      · rw [zI_toInt (by omega) (by omega)] at c
        omega
      have hB2 := hB'
      rw [if_neg (by omega)] at hB2
      have hBo2 : BoardAt I2 bo e.1 := hBo.fr f2' (VRL_out (by decide))
      have r2 : I2 0 (2 + k) 0 = zI b.1 := by rw [f2 _ _ (V1_out (vs := [0]) (by decide) _ (by decide) _)]; exact b1
      have rt : (I2 0 (2 + k) 0).toInt = r := by rw [r2, zI_toInt (by omega) (by omega)]; exact hbr
      refine am_goN vX6_roll (33 - 1) ?_
      refine fun x4 ex4 => ?_
      refine s_falls hbk hBo2 c2 hss.1 hss.2 (by show 0 ≤ b.2.2.1 + spd e.1 b.2.2.2; omega) (by show b.2.2.1 + spd e.1 b.2.2.2 ≤ _; omega) hdr0 hdr1 hBo2.2.2.2.1 (fun I3 f3 c3 => ?_)
      have f3' : FrI (VRL k) I I3 := f2'.tr (f3.toRB (by decide))
      have hlk : T.2.2.2.1 = lvK e.1.2.2.2.1 (spd e.1 b.2.2.2) := by rw [hB2]
      have hx4 : x4 = zI (100 * b.1 + b.2.1 + 100) := by rw [ex4, r2, c2.1, zI_mul, zI_add, zI_add]
      have S3 : CNAt I3 S := by
        refine CNtAt.fr (CNtAt.fr hS f2 (V1_out (by decide) · · 0)) f3 (V1_out (by decide) · · 0)
      refine s_nhearS (a := tk) (b := 100 * b.1 + b.2.1 + 100) (s := lvK e.1.2.2.2.1 (spd e.1 b.2.2.2)) S3 ?_ hx4 rfl (by omega) (by omega) (fun I4 f4 c4 => ?_)
      · rw [f3' _ _ (VRL_out (vs := [30]) (by decide) _ (by decide) _)]
        exact hnow
      have f4' : FrI (VRL k) I I4 := f3'.tr (f4.toRN (by decide))
      have b4 : BallAt I4 (2 + k) _ := c3.fr f4 (fun v hv => V0_outI (by decide) v hv _)
      have hlv := lvS_rng (s := spd e.1 b.2.2.2) hbk hss.1
      have hlP := lvP_rng hbk hdr0 hdr1 hss.1 hss.2 hov (by omega)
      have r4 : I4 0 (2 + k) 0 = zI b.1 := by rw [f4 _ _ (V0_outI (vs := [0]) (by decide) _ (by decide) _), f3 _ _ (V1_out (vs := [0]) (by decide) _ (by decide) _)]; exact r2
      have rt4 : (I4 0 (2 + k) 0).toInt = r := by rw [r4, zI_toInt (by omega) (by omega)]; exact hbr
      have g4' : I4 112 0 r = gs r := by rw [f4' _ _ (VRL_out (vs := [112]) (by decide) _ (by decide) _)]; exact hg
      refine And.intro (fun c => ?_) (fun c => ?_)
      · rw [rt4, zI_toInt (by omega) (by omega)] at c
        omega
      · refine And.intro ⟨by rw [rt4]; omega, by rw [rt4]; omega⟩ ?_
        rw [rt4, show ((r : Nat) : Int).toNat = r from by omega, g4']
        refine s_carryOn hrun (hP.rl f4') b4 p0 (by show b.2.1 ≤ _; omega) hlP.1 (by have := hlP.2; show lvP e.1 e.1.2.2.2.1 (b.2.2.1 + spd e.1 b.2.2.2) (spd e.1 b.2.2.2) ≤ _; omega) (fun I5 f5 b5 => ?_)
        have f5' : FrI (VRL k) I I5 := f4'.tr (f5.toRB (by decide))
        refine k89 I5 _ bo f5' ?_ (by rw [hB2]; exact b5) ?_ ?_
        · rw [f5 _ _ (V1_out (vs := [0]) (by decide) _ (by decide) _)]; exact r4
        · rw [hlk]
          exact CNtAt.fr c4 f5 (V1_out (by decide) · · 0)
        · rw [f5 _ _ (V1_out (vs := [31]) (by decide) _ (by decide) _), f4 _ _ (V0_outI (vs := [31]) (by decide) _ (by decide) _), f3 _ _ (V1_out (vs := [31]) (by decide) _ (by decide) _), f2 _ _ (V1_out (vs := [31]) (by decide) _ (by decide) _)]
    · have hov : b.2.2.1 + spd e.1 b.2.2.2 < e.1.1 := hov
      have hB2 := hB'
      rw [if_pos hov] at hB2
      refine And.intro (fun c => ?_) (fun c => ?_)
      · refine k89 I2 _ bo (f2.toRB (by decide)) ?_ (by rw [hB2]; exact c2) ?_ ?_
        · rw [f2 _ _ (V1_out (vs := [0]) (by decide) _ (by decide) _)]; exact b1
        · rw [hB2, if_neg (show ¬ (0 : Int) < 0 by decide)]
          exact CNtAt.fr hS f2 (V1_out (by decide) · · 0)
        · rw [f2 _ _ (V1_out (vs := [31]) (by decide) _ (by decide) _)]
      · rw [zI_toInt (by omega) (by omega)] at c
        omega
  · rw [he] at hn
    cases hn
