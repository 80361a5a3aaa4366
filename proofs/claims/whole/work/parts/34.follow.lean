/-! The reference follows a ball. -/
abbrev mfv : List Nat := [50, 51, 52, 53, 54, 55, 57, 56, 136, 137, 138]
def MFS (I : II) (st fa en : Int) (B : Int × Int × Int) (jm : Int) (ks : KS) : Prop := MSt I B.1 B.2.1 B.2.2 st jm ∧ I 57 0 0 = zI fa ∧ I 56 0 0 = zI en ∧ I 55 0 0 = zI ks.length ∧ KAt I 136 137 138 0 ks
theorem MSt.fr {I I' : II} {P : Nat → Nat → Bool} {pl pt sp st jm : Int} (h : MSt I pl pt sp st jm) (hf : FrI P I I') (hP : ∀ v ∈ msv, P v 0 = false) : MSt I' pl pt sp st jm := by
  obtain ⟨h1, h2, h3, h4, h5⟩ := h
  refine ⟨?_, ?_, ?_, ?_, ?_⟩ <;> rw [hf _ _ (hP _ (by decide))] <;> assumption
theorem KAt.frl {I I' : II} {P : Nat → Nat → Bool} {vt vp vs i : Nat} {ks : KS} (h : KAt I vt vp vs i ks) (hf : FrI P I I') (h1 : P vt i = false) (h2 : P vp i = false) (h3 : P vs i = false) : KAt I' vt vp vs i ks := h.fr (hf _ _ h1) (hf _ _ h2) (hf _ _ h3)
set_option maxRecDepth 100000 in
theorem mfollow_loop {Γ : AMG} {Q : QQ} {d r : Nat} {xr g : Int32} {I : II} {Lg : LJ} {R : RR} {gc : Nat → Nat} {rn : RUN} {ls : Nat → Int} (hrn : RUNok rn) (hM : MRunG I r g rn) (hlo : LSok ls) (hls : ∀ p, p < 12 → I 135 0 (12 * r + p) = zI (ls p)) (hr : r ≤ 4) (hxr : xr = zI r) :
    ∀ (m : Nat) (t : Int) (x3 : Int32) (l4 : Option AV) (S : FS) (st : Int) (I1 : II), t + m = 2001 → 1 ≤ t → x3 = zI t → FSok rn S → -1 ≤ S.en → S.en ≤ 2000 → FrI (V0 mfv) I I1 → MFS I1 st S.fa S.en (S.pl, S.pt, S.sp) S.jm S.ks →
      (∀ (I' : II) (st' : Int), FrI (V0 mfv) I I' → MFS I' st' (foll rn g ls m t S).fa (foll rn g ls m t S).en ((foll rn g ls m t S).pl, (foll rn g ls m t S).pt, (foll rn g ls m t S).sp) (foll rn g ls m t S).jm (foll rn g ls m t S).ks → Q none I' Lg R (GM gc)) →
      am_J Γ mX12_follow Q (d + 2) 0 0 37 [some (vR 12 0), some (vI xr), some (vI g), some (vI x3), l4] [] I1 Lg R (GM gc) := by
  intro m
  induction m with
  | zero =>
    intro t x3 l4 S st I1 hm ht hx hok he0 he1 hf hs h
    refine am_goN vX12_follow 20 ?_
    refine And.intro (fun c => ?_) (fun c => ?_)
    · exact h I1 st hf hs
    · rw [hx, zI_toInt (by omega) (by omega), zI_toInt (by omega) (by omega)] at c
      omega
  | succ m ih =>
    intro t x3 l4 S st I1 hm ht hx hok he0 he1 hf hs h
    refine am_J.er [true, true, true, true, false] ?_
    have hen1 : (I1 56 0 0).toInt = S.en := by rw [hs.2.2.1, zI_toInt (by omega) (by omega)]
    refine am_goN vX12_follow (19) ?_
    refine And.intro (fun c => ?_) (fun c => ?_)
    · rw [hx, zI_toInt (by omega) (by omega), zI_toInt (by omega) (by omega)] at c
      omega
    refine And.intro (fun c2 => ?_) (fun c2 => ?_)
    · rw [hen1, zI_toInt (by omega) (by omega)] at c2
      rw [foll_end c2] at h
      exact h I1 st hf hs
    rw [hen1, zI_toInt (by omega) (by omega)] at c2
    have hen : S.en = -1 := by omega
    obtain ⟨hb, hk⟩ := hok.1 hen
    have hok' := fstep_ok (g := g) hrn hlo ht hen hok
    obtain ⟨q1, q2, q3, q4, q5, q6, q7⟩ := tickB_ok (g := g) hrn hlo hb
    have hl := hrn.1
    have hpl0 := hb.1.1
    have hpl1 := hb.1.2.1
    refine fun x4 ex4 => ?_
    have v4 : x4 = zI S.pl := by rw [ex4]; exact hs.1.1
    unfold foll at h
    rw [if_pos hen] at h
    have hfa0 := hok.2.2.1
    have hfa1 := hok.2.2.2
    have hkl := hok.2.1
    have hb255 : -1 ≤ (tickB rn g ls S.pl S.pt S.sp).1 ∧ (tickB rn g ls S.pl S.pt S.sp).1 ≤ 255 := by
      rcases q1 with q | q
      · omega
      · have := q.1.1
        have := q.1.2.1
        omega
    generalize hB : tickB rn g ls S.pl S.pt S.sp = B at *
    -- behind the knocks
    have k134 : ∀ I2 : II, FrI (V0 mfv) I I2 → MFS I2 B.2.2.2.1 (fstep rn g ls t S).fa (-1) (B.1, B.2.1, B.2.2.1) (fstep rn g ls t S).jm (fstep rn g ls t S).ks → am_J Γ mX12_follow Q (d + 2) 0 0 134 [some (vR 12 0), some (vI xr), some (vI g), some (vI x3), some (vI x4)] [] I2 Lg R (GM gc) := by
      intro I2 f2 s2
      have e1 : (fstep rn g ls t S).en = if B.1 = 255 then t else -1 := by rw [← hB]; rfl
      have e2 : (fstep rn g ls t S).pl = B.1 := by rw [← hB]; rfl
      have e3 : (fstep rn g ls t S).pt = B.2.1 := by rw [← hB]; rfl
      have e4 : (fstep rn g ls t S).sp = B.2.2.1 := by rw [← hB]; rfl
      have hpl : (I2 50 0 0).toInt = B.1 := by rw [s2.1.1, zI_toInt (by show _ ≤ B.1; omega) (by show B.1 < _; omega)]
      refine am_goN vX12_follow 20 ?_
      refine And.intro (fun c => ?_) (fun c => ?_)
      · rw [hpl, zI_toInt (by omega) (by omega)] at c
        refine fun y ey => ?_
        refine ih (t + 1) y _ (fstep rn g ls t S) B.2.2.2.1 I2 (by omega) (by omega) (by rw [ey, hx, zI_add]) hok' (by rw [e1, if_neg c]; omega) (by rw [e1, if_neg c]; omega) f2 (by rw [e1, if_neg c, e2, e3, e4]; exact s2) h
      · rw [hpl, zI_toInt (by omega) (by omega)] at c
        have c' : B.1 = 255 := by omega
        refine fun y0 ey0 I3 e5 => ?_
        refine fun y ey => ?_
        refine ih (t + 1) y _ (fstep rn g ls t S) B.2.2.2.1 I3 (by omega) (by omega) (by rw [ey, hx, zI_add]) hok' (by rw [e1, if_pos c']; omega) (by rw [e1, if_pos c']; omega) (by rw [e5]; exact f2.up rfl) ?_ h
        have ff : FrI (V0 [56]) I2 I3 := by rw [e5]; exact FrI.rf.up rfl
        rw [e1, if_pos c', e2, e3, e4]
        obtain ⟨a1, a2, a3, a4, a5⟩ := s2
        refine ⟨a1.fr ff (by decide), by rw [ff _ _ rfl]; exact a2, by rw [e5, up3_s, ey0, hx], by rw [ff _ _ rfl]; exact a4, a5.frl ff rfl rfl rfl⟩
    have k83 : ∀ I2 : II, FrI (V0 mfv) I I2 → MFS I2 B.2.2.2.1 (fstep rn g ls t S).fa (-1) (B.1, B.2.1, B.2.2.1) (fstep rn g ls t S).jm S.ks → am_J Γ mX12_follow Q (d + 2) 0 0 83 [some (vR 12 0), some (vI xr), some (vI g), some (vI x3), some (vI x4)] [] I2 Lg R (GM gc) := by
      intro I2 f2 s2
      have e1 : (fstep rn g ls t S).ks = if 0 < B.2.2.2.1 then S.ks ++ [(t, S.pl, B.2.2.2.1)] else S.ks := by rw [← hB]; rfl
      have hst : (I2 53 0 0).toInt = B.2.2.2.1 := by rw [s2.1.2.2.2.1, zI_toInt (by omega) (by omega)]
      refine am_goN vX12_follow 3 ?_
      refine And.intro (fun c => ?_) (fun c => ?_)
      · rw [hst] at c
        refine k134 I2 f2 ?_
        rw [e1, if_neg (by omega)]
        exact s2
      · rw [hst] at c
        have hc : 0 < B.2.2.2.1 := by omega
        obtain ⟨a1, a2, a3, a4, a5⟩ := s2
        have hkn : (I2 55 0 0).toInt = S.ks.length := by rw [a4, zI_toInt (by omega) (by omega)]
        refine am_goN vX12_follow 25 ?_
        refine And.intro ⟨by omega, by omega⟩ ?_
        refine fun y1 ey1 I3 e3 => ?_
        have kn3 : I3 55 0 0 = I2 55 0 0 := by rw [e3, up3_v _ (by decide)]
        refine And.intro ⟨by rw [kn3]; omega, by rw [kn3]; omega⟩ ?_
        refine fun y2 ey2 I4 e4 => ?_
        have kn4 : I4 55 0 0 = I2 55 0 0 := by rw [e4, up3_v _ (by decide), kn3]
        refine And.intro ⟨by rw [kn4]; omega, by rw [kn4]; omega⟩ ?_
        refine fun y3 ey3 I5 e5 => ?_
        have kn5 : I5 55 0 0 = I2 55 0 0 := by rw [e5, up3_v _ (by decide), kn4]
        refine fun y4 ey4 I6 e6 => ?_
        rw [kn3] at e4
        rw [kn4] at e5
        rw [kn5] at ey4
        rw [hkn, Int.toNat_natCast] at e3 e4 e5
        have ff : FrI (V0 [55, 136, 137, 138]) I2 I6 := by
          rw [e6, e5, e4, e3]
          exact (((FrI.rf.up rfl).up rfl).up rfl).up rfl
        refine k134 I6 (f2.tr (ff.mono (fun v i h => V0_sub (by decide) h))) ?_
        rw [e1, if_pos hc]
        refine ⟨a1.fr ff (by decide), by rw [ff _ _ rfl]; exact a2, by rw [ff _ _ rfl]; exact a3, ?_, a5.app (fun k => ?_) (fun k => ?_) (fun k => ?_)⟩
        · rw [e6, up3_s, ey4, a4, zI_add, List.length_append]
          rfl
        · rw [e6, up3_v _ (by decide), e5, up3_v _ (by decide), e4, up3_v _ (by decide), e3, up3_a, ey1, hx]
          simp
        · rw [e6, up3_v _ (by decide), e5, up3_v _ (by decide), e4, up3_a, ey2, v4, e3, up3_v _ (by decide)]
          simp
        · rw [e6, up3_v _ (by decide), e5, up3_a, ey3, e4, up3_v _ (by decide), up3_v _ (by decide), e3, up3_v _ (by decide), up3_v _ (by decide), a1.2.2.2.1]
          simp
    refine s_step hrn (hM.fr hf (V0_out (by decide))) (ls := ls) (fun p hp => ⟨by rw [hf _ _ rfl]; exact hls p hp, (hlo p).1, (hlo p).2⟩) hr hxr hb.1 hs.1 (fun I2 f2 s2 => ?_)
    rw [hB] at s2
    have hf2 : FrI (V0 mfv) I I2 := hf.tr (f2.mono (fun v i h => V0_sub (by decide) h))
    have e1 : (fstep rn g ls t S).fa = max S.fa B.2.2.1 := by rw [← hB]; rfl
    have e2 : (fstep rn g ls t S).jm = S.jm + B.2.2.2.2 := by rw [← hB]; rfl
    have hfa : I2 57 0 0 = zI S.fa := by rw [f2 _ _ rfl]; exact hs.2.1
    have hrest : I2 56 0 0 = zI (-1) ∧ I2 55 0 0 = zI S.ks.length ∧ KAt I2 136 137 138 0 S.ks := ⟨by rw [f2 _ _ rfl, hs.2.2.1, hen], by rw [f2 _ _ rfl]; exact hs.2.2.2.1, hs.2.2.2.2.frl f2 rfl rfl rfl⟩
    have hsp2 : (I2 52 0 0).toInt = B.2.2.1 := by rw [s2.2.2.1, zI_toInt (by omega) (by omega)]
    have hfa2 : (I2 57 0 0).toInt = S.fa := by rw [hfa, zI_toInt (by omega) (by omega)]
    refine And.intro (fun c => ?_) (fun c => ?_)
    · rw [hsp2, hfa2] at c
      exact k83 I2 hf2 ⟨by rw [e2]; exact s2, by rw [e1, Int.max_eq_left c]; exact hfa, hrest.1, hrest.2.1, hrest.2.2⟩
    · rw [hsp2, hfa2] at c
      refine am_goN vX12_follow 4 ?_
      refine fun y ey I3 e3 => ?_
      have ff : FrI (V0 [57]) I2 I3 := by rw [e3]; exact FrI.rf.up rfl
      exact k83 I3 (by rw [e3]; exact hf2.up rfl) ⟨by rw [e2]; exact s2.fr ff (by decide), by rw [e3, up3_s, ey, s2.2.2.1, e1, Int.max_eq_right (by omega)], by rw [ff _ _ rfl]; exact hrest.1, by rw [ff _ _ rfl]; exact hrest.2.1, hrest.2.2.frl ff rfl rfl rfl⟩
set_option maxRecDepth 100000 in
theorem s_mfollow {Γ : AMG} {Q : QQ} {d r : Nat} {xr g : Int32} {I : II} {Lg : LJ} {R : RR} {gc : Nat → Nat} {rn : RUN} {ls : Nat → Int} (hrn : RUNok rn) (hn : 0 < rn.length) (hM : MRunG I r g rn) (hlo : LSok ls) (hls : ∀ p, p < 12 → I 135 0 (12 * r + p) = zI (ls p)) (hr : r ≤ 4) (hxr : xr = zI r)
    (h : ∀ (I' : II) (st' : Int), FrI (V0 mfv) I I' → MFS I' st' (fall9 rn g ls).fa (fall9 rn g ls).en ((fall9 rn g ls).pl, (fall9 rn g ls).pt, (fall9 rn g ls).sp) (fall9 rn g ls).jm (fall9 rn g ls).ks → Q none I' Lg R (GM gc)) :
    am_Sp Γ (d + 2) 0 0 mX12_follow [vR 12 0, vI xr, vI g] I Lg R (GM gc) Q := by
  refine am_runN vX12_follow 60 _ rfl rfl rfl rfl ?_
  refine fun y1 ey1 I1 e1 y2 ey2 I2 e2 y3 ey3 I3 e3 y4 ey4 I4 e4 y5 ey5 I5 e5 y6 ey6 I6 e6 y7 ey7 I7 e7 x3 ex3 => ?_
  have hf : FrI (V0 mfv) I I7 := by
    rw [e7, e6, e5, e4, e3, e2, e1]
    exact ((((((FrI.rf.up rfl).up rfl).up rfl).up rfl).up rfl).up rfl).up rfl
  refine mfollow_loop hrn hM hlo hls hr hxr 2000 1 x3 _ FS0 (I 53 0 0).toInt I7 rfl (by omega) ex3 ⟨fun _ => ⟨⟨⟨by decide, by show (0 : Int) < _; omega, by decide, by decide, by decide, by decide⟩, fun e he => ?_⟩, by decide⟩, by decide, by decide, by decide⟩ (by decide) (by decide) hf ⟨⟨?_, ?_, ?_, ?_, ?_⟩, ?_, ?_, ?_, fun k e he => by cases he⟩ h
  · show (0 : Int) < _
    have := (hrn.2 _ e he).1.1
    omega
  · simp [e7, e6, e5, e4, e3, e2, e1, up3_a, ey1]; rfl
  · simp [e7, e6, e5, e4, e3, e2, e1, up3_a, ey2]; rfl
  · simp [e7, e6, e5, e4, e3, e2, e1, up3_a, ey3]; rfl
  · simp [e7, e6, e5, e4, e3, e2, e1, up3_a, zI_self]
  · simp [e7, e6, e5, e4, e3, e2, e1, up3_a, ey4]; rfl
  · simp [e7, e6, e5, e4, e3, e2, e1, up3_a, ey6]; rfl
  · simp [e7, e6, e5, e4, e3, e2, e1, up3_a, ey7]; rfl
  · simp [e7, e6, e5, e4, e3, e2, e1, up3_a, ey5]; rfl
