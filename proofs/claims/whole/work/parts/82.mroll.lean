/-! The reference's night: the balls roll. -/
abbrev mntv : List Nat := [75, 76, 77, 78, 79, 74, 158, 159, 160]
theorem MNtAt.fr {I I' : II} {P : Nat → Nat → Bool} {t : NT} {ks : KS} (h : MNtAt I t ks) (hf : FrI P I I') (hP : ∀ v ∈ mntv, P v 0 = false) : MNtAt I' t ks := by
  obtain ⟨h1, h2, h3, h4, h5, h6, h7, h8⟩ := h
  refine ⟨?_, ?_, ?_, ?_, ?_, ?_, h7, h8.frl hf (hP _ (by decide)) (hP _ (by decide)) (hP _ (by decide))⟩ <;> rw [hf _ _ (hP _ (by decide))] <;> assumption
def MNAt (I : II) (S : NST) : Prop := MNtAt I S.1 S.2
theorem MNAt.end_ {I I' : II} {S : NST} {x : Int32} (h : MNAt I S) (e : I' = up3 I 76 0 0 x) (hx : x = I 76 0 0 + zI 1) : MNAt I' (endN S) := by
  obtain ⟨h1, h2, h3, h4, h5, h6, h7, h8⟩ := h
  have ff : FrI (V0 [76]) I I' := by rw [e]; exact FrI.rf.up rfl
  exact ⟨by rw [ff _ _ rfl]; exact h1, by rw [e, up3_s, hx, h2]; rfl, by rw [ff _ _ rfl]; exact h3, by rw [ff _ _ rfl]; exact h4, by rw [ff _ _ rfl]; exact h5, by rw [ff _ _ rfl]; exact h6, h7, h8.frl ff rfl rfl rfl⟩
theorem MNAt.bump {I I' : II} {S : NST} {x : Int32} (h : MNAt I S) (e : I' = up3 I 77 0 0 x) (hx : x = I 77 0 0 + zI 1) : MNAt I' (bumpN S) := by
  obtain ⟨h1, h2, h3, h4, h5, h6, h7, h8⟩ := h
  have ff : FrI (V0 [77]) I I' := by rw [e]; exact FrI.rf.up rfl
  exact ⟨by rw [ff _ _ rfl]; exact h1, by rw [ff _ _ rfl]; exact h2, by rw [e, up3_s, hx, h3]; rfl, by rw [ff _ _ rfl]; exact h4, by rw [ff _ _ rfl]; exact h5, by rw [ff _ _ rfl]; exact h6, h7, h8.frl ff rfl rfl rfl⟩
theorem MNAt.let_ {I I' : II} {S : NST} {x : Int32} (h : MNAt I S) (e : I' = up3 I 75 0 0 x) (hx : x = I 75 0 0 + zI 1) : MNAt I' (letN S) := by
  obtain ⟨h1, h2, h3, h4, h5, h6, h7, h8⟩ := h
  have ff : FrI (V0 [75]) I I' := by rw [e]; exact FrI.rf.up rfl
  exact ⟨by rw [e, up3_s, hx, h1]; rfl, by rw [ff _ _ rfl]; exact h2, by rw [ff _ _ rfl]; exact h3, by rw [ff _ _ rfl]; exact h4, by rw [ff _ _ rfl]; exact h5, by rw [ff _ _ rfl]; exact h6, h7, h8.frl ff rfl rfl rfl⟩
abbrev mbl : List Nat := [161, 162, 163, 164, 165, 166]
def MBall (I : II) (k : Nat) (b : NB) : Prop := I 161 0 k = zI b.1 ∧ I 162 0 k = zI b.2.1 ∧ I 163 0 k = zI b.2.2.1 ∧ I 164 0 k = zI b.2.2.2
def MWas (I : II) (k : Nat) (o : NB) : Prop := I 165 0 k = zI o.2.1 ∧ I 166 0 k = zI o.2.2.1
/-- of the rows of balls nothing but place n has changed -/
def FrJ (n : Nat) (I I' : II) : Prop := ∀ v j, mbl.elem v = true → j ≠ n → I' v 0 j = I v 0 j
theorem FrJ.rf {n : Nat} {I : II} : FrJ n I I := fun _ _ _ _ => rfl
theorem FrJ.tr {n : Nat} {I I' I2 : II} (h : FrJ n I I') (h2 : FrJ n I' I2) : FrJ n I I2 := fun v j a b => (h2 v j a b).trans (h v j a b)
theorem FrJ.up {n : Nat} {I I' : II} (h : FrJ n I I') (v : Nat) (x : Int32) : FrJ n I (up3 I' v 0 n x) := fun v' j a b => by
  rw [up3_a, if_neg (fun z => b z.2.2)]
  exact h v' j a b
theorem FrJ.of {n : Nat} {I I' : II} {l : List Nat} (h : FrI (V0 l) I I') (hl : mbl.all (fun v => !l.elem v) = true) : FrJ n I I' := fun v j a _ => by
  have := List.all_eq_true.mp hl v (List.elem_iff.mp a)
  rw [h v 0 (by unfold V0; simpa using this)]
theorem MBall.j {n k : Nat} {I I' : II} {b : NB} (h : MBall I k b) (hf : FrJ n I I') (hk : k ≠ n) : MBall I' k b := by
  obtain ⟨h1, h2, h3, h4⟩ := h
  exact ⟨by rw [hf _ _ rfl hk]; exact h1, by rw [hf _ _ rfl hk]; exact h2, by rw [hf _ _ rfl hk]; exact h3, by rw [hf _ _ rfl hk]; exact h4⟩
theorem MWas.j {n k : Nat} {I I' : II} {b : NB} (h : MWas I k b) (hf : FrJ n I I') (hk : k ≠ n) : MWas I' k b := by
  obtain ⟨h1, h2⟩ := h
  exact ⟨by rw [hf _ _ rfl hk]; exact h1, by rw [hf _ _ rfl hk]; exact h2⟩
def MMid (I : II) (rn : Nat → RUN) (gs : Nat → Int32) (B : List NB) (n : Nat) : Prop := ∀ (j : Nat) (b : NB), B[j]? = some b → if j < n then MBall I j (stpB rn gs b) ∧ MWas I j b else MBall I j b
theorem MMid.go {I I' : II} {rn : Nat → RUN} {gs : Nat → Int32} {B : List NB} {n : Nat} {b : NB} (h : MMid I rn gs B n) (hb : B[n]? = some b) (hf : FrJ n I I') (h1 : MBall I' n (stpB rn gs b)) (h2 : MWas I' n b) : MMid I' rn gs B (n + 1) := by
  intro j x hj
  by_cases hjn : j = n
  · subst hjn
    rw [hb] at hj
    cases hj
    rw [if_pos (by omega)]
    exact ⟨h1, h2⟩
  · have := h j x hj
    by_cases hlt : j < n
    · rw [if_pos hlt] at this
      rw [if_pos (by omega)]
      exact ⟨this.1.j hf hjn, this.2.j hf hjn⟩
    · rw [if_neg hlt] at this
      rw [if_neg (by omega)]
      exact this.j hf hjn
abbrev mnl : List Nat := [165, 166, 162, 163, 164, 50, 51, 52, 53, 54, 74, 78, 79, 158, 159, 160, 76, 77]
theorem mroll_loop {Γ : AMG} {Q : QQ} {d : Nat} {x1 : Int32} {I : II} {Lg : LJ} {R : RR} {gc : Nat → Nat} {rn : Nat → RUN} {gs : Nat → Int32} {B : List NB} {tk : Int} (hrn : RNSok rn) (hP : MRunsAt I rn) (hB : ∀ b ∈ B, NBok rn b) (hl : B.length ≤ 24) (hlg : I 75 0 0 = zI B.length) (hg : ∀ r, r < 4 → I 167 0 r = gs r) (hx1 : x1 = zI tk) :
    ∀ (m n : Nat) (x2 : Int32) (l3 l4 : Option AV) (S : NST) (I1 : II), n + m = B.length → x2 = zI n → FrI (V0 mnl) I I1 → MNAt I1 S → MMid I1 rn gs B n →
      (∀ (I' : II) (x2 : Int32) (l3 l4 : Option AV), FrI (V0 mnl) I I' → MNAt I' (rollL rn gs tk (B.drop n) S) → MMid I' rn gs B B.length → x2 = zI 0 → am_J Γ mX12_rollAll Q (d + 3) 0 0 193 [some (vR 12 0), some (vI x1), some (vI x2), l3, l4] [] I' Lg R (GM gc)) →
      am_J Γ mX12_rollAll Q (d + 3) 0 0 2 [some (vR 12 0), some (vI x1), some (vI x2), l3, l4] [] I1 Lg R (GM gc) := by
  intro m
  induction m with
  | zero =>
    intro n x2 l3 l4 S I1 hm hx hf hS hM h
    have hlt : (I1 75 0 0).toInt = B.length := by rw [hf _ _ rfl, hlg, zI_toInt (by omega) (by omega)]
    rw [List.drop_of_length_le (by omega)] at h
    have hnB : n = B.length := by omega
    refine am_goN vX12_rollAll 6 ?_
    refine And.intro (fun c => ?_) (fun c => ?_)
    · refine fun y ey => ?_
      exact h I1 y l3 l4 hf hS (by rw [← hnB]; exact hM) ey
    · rw [hlt, hx, zI_toInt (by omega) (by omega)] at c
      omega
  | succ m ih =>
    intro n x2 l3 l4 S I1 hm hx hf hS hM h
    have hlt : (I1 75 0 0).toInt = B.length := by rw [hf _ _ rfl, hlg, zI_toInt (by omega) (by omega)]
    have hn : n < B.length := by omega
    have he : B[n]? = some B[n] := List.getElem?_eq_getElem hn
    have hdr : B.drop n = B[n] :: B.drop (n + 1) := List.drop_eq_getElem_cons hn
    rw [hdr] at h
    have hok := hB B[n] (List.getElem_mem hn)
    generalize B[n] = b at he hdr h hok
    unfold rollL at h
    have hxt : x2.toInt = n := by rw [hx, zI_toInt (by omega) (by omega)]
    have hxn : x2.toInt.toNat = n := by rw [hxt]; omega
    have hcb := hM n b he
    rw [if_neg (by omega)] at hcb
    have hpl := hok.pl hrn
    obtain ⟨g1, g2, g3, g4, g5, g6, g7, g8⟩ := id hok
    obtain ⟨m1, m2, m3, m4⟩ := hcb
    have k185 : ∀ (I2 : II), FrI (V0 mnl) I1 I2 → FrJ n I1 I2 → MNAt I2 (rollN rn gs tk b S) → MBall I2 n (stpB rn gs b) → MWas I2 n b →
        am_J Γ mX12_rollAll Q (d + 3) 0 0 185 [some (vR 12 0), some (vI x1), some (vI x2), l3, l4] [] I2 Lg R (GM gc) := by
      intro I2 f2 j2 s2 b2 a2
      refine am_goN vX12_rollAll 2 ?_
      refine fun y ey => ?_
      exact ih (n + 1) y l3 l4 (rollN rn gs tk b S) I2 (by omega) (by rw [ey, hx, zI_add]; congr 1) (hf.tr f2) s2 (hM.go he j2 b2 a2) h
    refine am_goN vX12_rollAll (26) ?_
    refine And.intro (fun c => ?_) (fun c => ?_)
    · rw [hlt, hxt] at c
      omega
    refine And.intro ⟨by omega, by omega⟩ ?_
    refine And.intro ⟨by omega, by omega⟩ ?_
    rw [hxn]
    refine fun y2 ey2 I2 e2 => ?_
    refine And.intro ⟨by omega, by omega⟩ ?_
    refine And.intro ⟨by omega, by omega⟩ ?_
    rw [hxn]
    refine fun y3 ey3 I3 e3 => ?_
    refine And.intro ⟨by omega, by omega⟩ ?_
    rw [hxn]
    have f3 : FrI (V0 [165, 166]) I1 I3 := by rw [e3, e2]; exact (FrI.rf.up rfl).up rfl
    have j3 : FrJ n I1 I3 := by rw [e3, e2]; exact (FrJ.rf.up _ _).up _ _
    have w3 : MWas I3 n b := ⟨by rw [e3, up3_v _ (by decide), e2, up3_s, ey2]; exact m2, by rw [e3, up3_s, ey3, e2, up3_v _ (by decide)]; exact m3⟩
    have hpt : (I3 162 0 n).toInt = b.2.1 := by rw [f3 _ _ rfl, m2, zI_toInt (by omega) (by omega)]
    have S3 : MNAt I3 S := MNtAt.fr hS f3 (V0_out (by decide))
    have b3 : MBall I3 n b := ⟨by rw [f3 _ _ rfl]; exact m1, by rw [f3 _ _ rfl]; exact m2, by rw [f3 _ _ rfl]; exact m3, by rw [f3 _ _ rfl]; exact m4⟩
    have f3' : FrI (V0 mnl) I1 I3 := f3.mono (fun v i h => V0_sub (by decide) h)
    refine And.intro (fun c => ?_) (fun c => ?_)
    · rw [hpt, zI_toInt (by omega) (by omega)] at c
      have hbs := g8.resolve_left c
      have hrun := hrn b.1.toNat (by omega)
      obtain ⟨q1, q2, q3, q4, q5, q6, q7⟩ := tickB_ok (g := gs b.1.toNat) hrun nols_ok hbs
      have hst : stpB rn gs b = (b.1, (tickB (rn b.1.toNat) (gs b.1.toNat) nols b.2.1 b.2.2.1 b.2.2.2).1, (tickB (rn b.1.toNat) (gs b.1.toNat) nols b.2.1 b.2.2.1 b.2.2.2).2.1, (tickB (rn b.1.toNat) (gs b.1.toNat) nols b.2.1 b.2.2.1 b.2.2.2).2.2.1) := by
        unfold stpB
        rw [if_neg c]
      have hsS : stpS rn gs b = (tickB (rn b.1.toNat) (gs b.1.toNat) nols b.2.1 b.2.2.1 b.2.2.2).2.2.2.1 := by
        unfold stpS
        rw [if_neg c]
      have hRN : rollN rn gs tk b S = if (tickB (rn b.1.toNat) (gs b.1.toNat) nols b.2.1 b.2.2.1 b.2.2.2).1 = 255 then endN (rollN1 rn gs tk b S) else rollN1 rn gs tk b S := by
        unfold rollN
        rw [hst]
        by_cases q : (tickB (rn b.1.toNat) (gs b.1.toNat) nols b.2.1 b.2.2.1 b.2.2.2).1 = 255
        · rw [if_pos ⟨c, q⟩, if_pos q]
        · rw [if_neg (fun z => q z.2), if_neg q]
      have hR1 : rollN1 rn gs tk b S = if 0 < (tickB (rn b.1.toNat) (gs b.1.toNat) nols b.2.1 b.2.2.1 b.2.2.2).2.2.2.1 then hearN S (tk, 100 * b.1 + b.2.1 + 100, (tickB (rn b.1.toNat) (gs b.1.toNat) nols b.2.1 b.2.2.1 b.2.2.2).2.2.2.1) else S := by
        unfold rollN1
        rw [hsS]
      rw [hst, hRN] at k185
      have hM0 := (hP.1 b.1.toNat (by omega)).2 (gs b.1.toNat)
      have hls0 := hP.2
      generalize hT : tickB (rn b.1.toNat) (gs b.1.toNat) nols b.2.1 b.2.2.1 b.2.2.2 = T at *
      have hT1 : 0 ≤ T.1 ∧ T.1 ≤ 255 := by
        rcases q1 with q | q
        · have := hrun.1
          omega
        · have := q.1.1
          have := q.1.2.1
          have := hrun.1
          omega
      -- the ball's end
      have k165 : ∀ I6 : II, FrI (V0 mnl) I1 I6 → FrJ n I1 I6 → I6 50 0 0 = zI T.1 → MBall I6 n (b.1, T.1, T.2.1, T.2.2.1) → MWas I6 n b → MNAt I6 (rollN1 rn gs tk b S) →
          am_J Γ mX12_rollAll Q (d + 3) 0 0 165 [some (vR 12 0), some (vI x1), some (vI x2), l3, l4] [] I6 Lg R (GM gc) := by
        intro I6 f6 j6 p6 b6 w6 s6
        have hp6 : (I6 50 0 0).toInt = T.1 := by rw [p6, zI_toInt (by omega) (by omega)]
        refine am_goN vX12_rollAll 4 ?_
        refine And.intro (fun c2 => ?_) (fun c2 => ?_)
        · rw [hp6, zI_toInt (by omega) (by omega)] at c2
          refine k185 I6 f6 j6 ?_ b6 w6
          rw [if_neg c2]
          exact s6
        · rw [hp6, zI_toInt (by omega) (by omega)] at c2
          refine am_goN vX12_rollAll 6 ?_
          refine fun y ey I7 e7 => ?_
          have f7 : FrI (V0 [76]) I6 I7 := by rw [e7]; exact FrI.rf.up rfl
          have j7 : FrJ n I6 I7 := FrJ.of f7 (by decide)
          refine k185 I7 (f6.tr (f7.mono (fun v i h => V0_sub (by decide) h))) (j6.tr j7) ?_ ?_ ?_
          · rw [if_pos (by omega)]
            exact s6.end_ e7 ey
          · obtain ⟨z1, z2, z3, z4⟩ := b6
            exact ⟨by rw [f7 _ _ rfl]; exact z1, by rw [f7 _ _ rfl]; exact z2, by rw [f7 _ _ rfl]; exact z3, by rw [f7 _ _ rfl]; exact z4⟩
          · obtain ⟨z1, z2⟩ := w6
            exact ⟨by rw [f7 _ _ rfl]; exact z1, by rw [f7 _ _ rfl]; exact z2⟩
      refine am_goN vX12_rollAll (52) ?_
      refine And.intro ⟨by omega, by omega⟩ ?_
      rw [hxn]
      refine fun y4 ey4 I4 e4 => ?_
      refine And.intro ⟨by omega, by omega⟩ ?_
      rw [hxn]
      refine fun y5 ey5 I5 e5 => ?_
      refine And.intro ⟨by omega, by omega⟩ ?_
      rw [hxn]
      refine fun y6 ey6 I6 e6 => ?_
      refine And.intro ⟨by omega, by omega⟩ ?_
      refine And.intro ⟨by omega, by omega⟩ ?_
      rw [hxn]
      have f6 : FrI (V0 [50, 51, 52]) I3 I6 := by rw [e6, e5, e4]; exact ((FrI.rf.up rfl).up rfl).up rfl
      have f6' : FrI (V0 mnl) I1 I6 := f3'.tr (f6.mono (fun v i h => V0_sub (by decide) h))
      have r6 : I6 161 0 n = zI b.1 := by rw [f6 _ _ rfl]; exact b3.1
      have rt6 : (I6 161 0 n).toInt = b.1 := by rw [r6, zI_toInt (by omega) (by omega)]
      refine And.intro ⟨by rw [rt6]; omega, by rw [rt6]; omega⟩ ?_
      rw [rt6]
      have g6' : I6 167 0 b.1.toNat = gs b.1.toNat := by rw [f6' _ _ rfl, hf _ _ rfl]; exact hg _ (by omega)
      rw [g6']
      have hM6 : MRunG I6 b.1.toNat (gs b.1.toNat) (rn b.1.toNat) := (hM0.fr hf (V0_out (by decide))).fr f6' (V0_out (by decide))
      refine s_step (r := b.1.toNat) (ls := nols) (pl := b.2.1) (pt := b.2.2.1) (sp := b.2.2.2) (st := (I6 53 0 0).toInt) (jm := (I6 54 0 0).toInt) hrun hM6 (fun p hp => ⟨?_, (nols_ok p).1, (nols_ok p).2⟩) (by omega) (by rw [r6]; congr 1; omega) hbs.1 ⟨?_, ?_, ?_, (zI_self _).symm, (zI_self _).symm⟩ (fun I7 f7 s7 => ?_)
      · rw [f6' _ _ rfl, hf _ _ rfl]
        exact hls0 _
      · rw [e6, up3_v _ (by decide), e5, up3_v _ (by decide), e4, up3_s, ey4]
        exact b3.2.1
      · rw [e6, up3_v _ (by decide), e5, up3_s, ey5, e4, up3_v _ (by decide)]
        exact b3.2.2.1
      · rw [e6, up3_s, ey6, e5, up3_v _ (by decide), e4, up3_v _ (by decide)]
        exact b3.2.2.2
      · rw [hT] at s7
        obtain ⟨t1, t2, t3, t4, t5⟩ := s7
        refine And.intro ⟨by omega, by omega⟩ ?_
        rw [hxn]
        refine fun y8 ey8 I8 e8 => ?_
        refine And.intro ⟨by omega, by omega⟩ ?_
        rw [hxn]
        refine fun y9 ey9 I9 e9 => ?_
        refine And.intro ⟨by omega, by omega⟩ ?_
        rw [hxn]
        refine fun y10 ey10 I10 e10 => ?_
        have f7' : FrI (V0 mnl) I1 I7 := f6'.tr (f7.mono (fun v i h => V0_sub (by decide) h))
        have f10 : FrI (V0 [162, 163, 164]) I7 I10 := by rw [e10, e9, e8]; exact ((FrI.rf.up rfl).up rfl).up rfl
        have f10' : FrI (V0 mnl) I1 I10 := f7'.tr (f10.mono (fun v i h => V0_sub (by decide) h))
        have j7 : FrJ n I1 I7 := (j3.tr (FrJ.of f6 (by decide))).tr (FrJ.of f7 (by decide))
        have j10 : FrJ n I1 I10 := j7.tr (by rw [e10, e9, e8]; exact ((FrJ.rf.up _ _).up _ _).up _ _)
        have r10 : I10 161 0 n = zI b.1 := by rw [f10 _ _ rfl, f7 _ _ rfl]; exact r6
        have w10 : MWas I10 n b := ⟨by rw [f10 _ _ rfl, f7 _ _ rfl, f6 _ _ rfl]; exact w3.1, by rw [f10 _ _ rfl, f7 _ _ rfl, f6 _ _ rfl]; exact w3.2⟩
        have p10 : I10 50 0 0 = zI T.1 := by rw [f10 _ _ rfl]; exact t1
        have st10 : I10 53 0 0 = zI T.2.2.2.1 := by rw [f10 _ _ rfl]; exact t4
        have b10 : MBall I10 n (b.1, T.1, T.2.1, T.2.2.1) := by
          refine ⟨r10, ?_, ?_, ?_⟩
          · rw [e10, up3_v _ (by decide), e9, up3_v _ (by decide), e8, up3_s, ey8]; exact t1
          · rw [e10, up3_v _ (by decide), e9, up3_s, ey9, e8, up3_v _ (by decide)]; exact t2
          · rw [e10, up3_s, ey10, e9, up3_v _ (by decide), e8, up3_v _ (by decide)]; exact t3
        have S10 : MNAt I10 S := MNtAt.fr (MNtAt.fr (MNtAt.fr S3 f6 (V0_out (by decide))) f7 (V0_out (by decide))) f10 (V0_out (by decide))
        have hstt : (I10 53 0 0).toInt = T.2.2.2.1 := by rw [st10, zI_toInt (by omega) (by omega)]
        refine And.intro (fun c2 => ?_) (fun c2 => ?_)
        · rw [hstt] at c2
          refine k165 I10 f10' j10 p10 b10 w10 ?_
          rw [hR1, if_neg (by omega)]
          exact S10
        · rw [hstt] at c2
          refine am_goN vX12_rollAll (18) ?_
          refine And.intro ⟨by omega, by omega⟩ ?_
          refine And.intro ⟨by omega, by omega⟩ ?_
          rw [hxn]
          refine s_mhear (a := tk) (b := 100 * b.1 + b.2.1 + 100) (s := T.2.2.2.1) S10 hx1 (by rw [r10, w10.1, zI_mul, zI_add, zI_add]) st10 (fun I11 f11 s11 => ?_)
          refine k165 I11 (f10'.tr (f11.mono (fun v i h => V0_sub (by decide) h))) (j10.tr (FrJ.of f11 (by decide))) (by rw [f11 _ _ rfl]; exact p10) ?_ ?_ ?_
          · obtain ⟨z1, z2, z3, z4⟩ := b10
            exact ⟨by rw [f11 _ _ rfl]; exact z1, by rw [f11 _ _ rfl]; exact z2, by rw [f11 _ _ rfl]; exact z3, by rw [f11 _ _ rfl]; exact z4⟩
          · obtain ⟨z1, z2⟩ := w10
            exact ⟨by rw [f11 _ _ rfl]; exact z1, by rw [f11 _ _ rfl]; exact z2⟩
          · rw [hR1, if_pos (by omega)]
            exact s11
    · rw [hpt, zI_toInt (by omega) (by omega)] at c
      have c' : b.2.1 = 255 := by omega
      have e1 : stpB rn gs b = b := by unfold stpB; rw [if_pos c']
      have e2' : stpS rn gs b = 0 := by unfold stpS; rw [if_pos c']
      have e3' : rollN rn gs tk b S = S := by
        unfold rollN rollN1
        rw [e2', if_neg (fun q => q.1 c'), if_neg (by omega)]
      refine am_goN vX12_rollAll 1 ?_
      refine k185 I3 f3' j3 (by rw [e3']; exact S3) (by rw [e1]; exact b3) w3
