theorem foll_en {rn : RUN} {g : Int32} {ls : Nat → Int} : ∀ (f : Nat) (t : Int) (S : FS), 1 ≤ t → t + f ≤ 2001 → -1 ≤ S.en → S.en ≤ 2000 → -1 ≤ (foll rn g ls f t S).en ∧ (foll rn g ls f t S).en ≤ 2000 ∧ (foll rn g ls f t S).en ≠ 0 ∨ S.en = 0
  | 0, t, S, h1, h2, h3, h4 => by
    show -1 ≤ S.en ∧ S.en ≤ 2000 ∧ S.en ≠ 0 ∨ S.en = 0
    omega
  | f + 1, t, S, h1, h2, h3, h4 => by
    unfold foll
    by_cases he : S.en = -1
    · rw [if_pos he]
      have hx : (fstep rn g ls t S).en = t ∨ (fstep rn g ls t S).en = -1 := by
        show (if (tickB rn g ls S.pl S.pt S.sp).1 = 255 then t else -1) = t ∨ (if (tickB rn g ls S.pl S.pt S.sp).1 = 255 then t else -1) = -1
        split
        · exact Or.inl rfl
        · exact Or.inr rfl
      have ih := foll_en (rn := rn) (g := g) (ls := ls) f (t + 1) (fstep rn g ls t S) (by omega) (by omega) (by omega) (by omega)
      rcases ih with q | q
      · exact Or.inl q
      · omega
    · rw [if_neg he]
      omega
theorem fall9_en {rn : RUN} {g : Int32} {ls : Nat → Int} : -1 ≤ (fall9 rn g ls).en ∧ (fall9 rn g ls).en ≤ 2000 ∧ (fall9 rn g ls).en ≠ 0 := by
  rcases foll_en (rn := rn) (g := g) (ls := ls) 2000 1 FS0 (by decide) (by decide) (by decide) (by decide) with q | q
  · exact q
  · exact absurd q (by decide)
def ballsA (l : List MC) (es : List EV) (rn : RUN) (r bk : Int) : Int := if (fall9 rn (zI 0) nols).en = -1 then -2 else bmost l es r ((fall9 rn (zI 0) nols).en + bk) es.length
set_option maxRecDepth 100000 in
theorem s_balls {Γ : AMG} {Q : QQ} {d : Nat} {x1 x2 : Int32} {I : II} {Lg : LJ} {R : RR} {gc : Nat → Nat} {rn : Nat → RUN} {l : List MC} {S : PS} (hrn : RNSok rn) (hc : CRunsAt I R rn) (hl : MCsok l) (hm : CMAt I l) (hp : PlanAt I 9 S) (hes : EVsok l S.1)
    (hn : (¬ ∃ r : Nat, r < 4 ∧ x1 = zI r ∧ 0 < (rn r).length ∧ 0 ≤ x2.toInt ∧ x2.toInt ≤ 1000) → Q (some (vI (zI (-1)))) I Lg R (GM gc))
    (hy : ∀ r : Nat, r < 4 → x1 = zI r → 0 < (rn r).length → 0 ≤ x2.toInt → x2.toInt ≤ 1000 → ∀ I' : II, FrI (VF 1 1) I I' → Q (some (vI (zI (ballsA l S.1 (rn r) r x2.toInt)))) I' Lg R (GM gc)) :
    am_Sp Γ (d + 4) 0 0 mX11_balls [vR 11 0, vI x1, vI x2] I Lg R (GM gc) Q := by
  refine am_run vX11_balls 60 _ rfl rfl rfl rfl ?_
  refine s_pathOf (fun r hr hx hz => ?_) (fun hz => ?_)
  · have hlen := (hrn r hr).1
    have hst : (I 32 r 0).toInt = (rn r).length := by rw [(hc r hr).1, zI_toInt (by omega) (by omega)]
    rw [hst] at hz
    refine s_within (fun j1 j2 => ?_) (fun j1 => ?_)
    · rw [zI_toInt (by omega) (by omega)] at j1 j2
      refine And.intro (fun c => ?_) (fun c => ?_)
      · refine s_cfollow (f := 1) (hrn r hr) (by omega) (hc r hr) (fun I' f' c' => ?_)
        have hen := fall9_en (rn := rn r) (g := zI 0) (ls := nols)
        have hq := hy r hr hx (by omega) j1 j2 I' f'
        unfold ballsA at hq
        have het : (I' 20 1 0).toInt = (fall9 (rn r) (zI 0) nols).en := by rw [c'.2.1, zI_toInt (by omega) (by omega)]
        refine And.intro (fun c2 => ?_) (fun c2 => ?_)
        · rw [het, zI_toInt (by omega) (by omega)] at c2
          rw [if_neg c2] at hq
          have hxx : I' 20 1 0 + x2 = zI ((fall9 (rn r) (zI 0) nols).en + x2.toInt) := by rw [c'.2.1, ← zI_add, zI_self]
          refine s_ballsNeeded hl (hm.fr f' (fun v hv => ?_)) (hp.fr f' (fun v hv => ?_)) hes hx (by omega) (by omega) hxx (by omega) (by omega) hq
          · have : cmv.all (fun v => !(fvars.elem v) && !((0 :: bvars).elem v)) = true := by decide
            have h1 := List.all_eq_true.mp this v hv
            rw [Bool.and_eq_true] at h1
            exact VF_out (by simpa using h1.1) (by simpa using h1.2)
          · have : pvars.all (fun v => !(fvars.elem v) && !((0 :: bvars).elem v)) = true := by decide
            have h1 := List.all_eq_true.mp this v hv
            rw [Bool.and_eq_true] at h1
            exact VF_out (by simpa using h1.1) (by simpa using h1.2)
        · rw [het, zI_toInt (by omega) (by omega)] at c2
          rw [if_pos (by omega)] at hq
          exact hq
      · rw [zI_toInt (by omega) (by omega)] at c
        omega
    · rw [zI_toInt (by omega) (by omega), zI_toInt (by omega) (by omega)] at j1
      refine And.intro (fun c => ?_) (fun c => ?_)
      · rw [zI_toInt (by omega) (by omega)] at c
        omega
      · refine hn (fun q => ?_)
        obtain ⟨_, _, _, _, q1, q2⟩ := q
        omega
  · refine hn (fun q => ?_)
    obtain ⟨r, hr, hx, hl, -⟩ := q
    have hlen := (hrn r hr).1
    have hst : (I 32 r 0).toInt = (rn r).length := by rw [(hc r hr).1, zI_toInt (by omega) (by omega)]
    rcases hz with hz | ⟨r', hr', hx', hz⟩
    · rw [hx, zI_toInt (by omega) (by omega)] at hz
      omega
    · have : (r : Int) = r' := zI_inj (by omega) (by omega) (by omega) (by omega) (hx ▸ hx')
      have : r = r' := by omega
      subst this
      omega
set_option maxRecDepth 100000 in
theorem s_mballs {Γ : AMG} {Q : QQ} {d : Nat} {x1 x2 : Int32} {I : II} {Lg : LJ} {R : RR} {gc : Nat → Nat} {rn : Nat → RUN} {l : List MC} {es : List EV} (hrn : RNSok rn) (hc : MRunsAt I rn) (hl : MCsok l) (hm : MMAt I l) (hp : MPAt I es) (hes : EVsok l es)
    (hn : (¬ ∃ r : Nat, r < 4 ∧ x1 = zI r ∧ 0 < (rn r).length ∧ 0 ≤ x2.toInt ∧ x2.toInt ≤ 1000) → Q (some (vI (zI (-1)))) (up3 I 47 0 0 (zI 0)) Lg R (GM gc))
    (hy : ∀ r : Nat, r < 4 → x1 = zI r → 0 < (rn r).length → 0 ≤ x2.toInt → x2.toInt ≤ 1000 → ∀ I' : II, FrI (V0 (47 :: mfv)) I I' → I' 47 0 0 = zI 0 → Q (some (vI (zI (ballsA l es (rn r) r x2.toInt)))) I' Lg R (GM gc)) :
    am_Sp Γ (d + 3) 0 0 mX12_balls [vR 12 0, vI x1, vI x2] I Lg R (GM gc) Q := by
  refine am_runN vX12_balls 60 _ rfl rfl rfl rfl ?_
  refine fun y0 ey0 I0 e0 => ?_
  have e0' : I0 = up3 I 47 0 0 (zI 0) := by rw [e0, ey0]
  have f0 : FrI (V0 [47]) I I0 := by rw [e0]; exact FrI.rf.up rfl
  have hpl : ∀ r : Nat, r < 4 → (I0 131 0 r).toInt = (rn r).length := by
    intro r hr
    have := (hrn r hr).1
    rw [f0 _ _ rfl, (hc.1 r hr).1, zI_toInt (by omega) (by omega)]
  refine s_isRun (fun j1 j2 j3 => ?_) (fun j1 => ?_)
  · have hr : x1.toInt.toNat < 4 := by omega
    have hx1 : x1 = zI x1.toInt.toNat := by rw [show ((x1.toInt.toNat : Nat) : Int) = x1.toInt by omega, zI_self]
    rw [hpl _ hr] at j3
    have hnl : ¬ (0 ≤ x2.toInt ∧ x2.toInt ≤ 1000) → Q (some (vI (zI (-1)))) I0 Lg R (GM gc) := by
      intro q
      rw [e0']
      refine hn (fun z => ?_)
      obtain ⟨_, _, _, _, z1, z2⟩ := z
      exact q ⟨z1, z2⟩
    refine And.intro (fun c => ?_) (fun c => ?_)
    · rw [zI_toInt (by omega) (by omega)] at c
      omega
    refine s_isIn (fun i1 i2 => ?_) (fun i1 => ?_)
    · rw [zI_toInt (by omega) (by omega)] at i1 i2
      refine And.intro (fun c2 => ?_) (fun c2 => ?_)
      · refine s_mfollow (rn := rn x1.toInt.toNat) (ls := nols) (hrn _ hr) (by omega) (((hc.1 _ hr).2 (zI 0)).fr f0 (V0_out (by decide))) nols_ok (fun p hp => by rw [f0 _ _ rfl]; exact hc.2 _) (by omega) hx1 (fun I2 st f2 s2 => ?_)
        have hen := fall9_en (rn := rn x1.toInt.toNat) (g := zI 0) (ls := nols)
        have het : (I2 56 0 0).toInt = (fall9 (rn x1.toInt.toNat) (zI 0) nols).en := by rw [s2.2.2.1, zI_toInt (by omega) (by omega)]
        have hq := hy _ hr hx1 (by omega) i1 i2 I2 ((f0.mono (fun v i h => V0_sub (by decide) h)).tr (f2.mono (fun v i h => V0_sub (by decide) h))) (by rw [f2 _ _ rfl, e0', up3_s])
        unfold ballsA at hq
        refine And.intro (fun c3 => ?_) (fun c3 => ?_)
        · rw [het, zI_toInt (by omega) (by omega)] at c3
          rw [if_neg c3] at hq
          refine fun x3 ex3 x4 ex4 => ?_
          exact mballs_out hl ((hm.fr f0 (V0_out (by decide))).fr f2 (V0_out (by decide))) ((hp.fr f0 (V0_out (by decide))).fr f2 (V0_out (by decide))) hes hx1 (by omega) (by omega) (by rw [zI_self]) i1 i2 s2.2.2.1 (by omega) (by omega) hq es.length 0 x3 x4 _ _ (by omega) ex4 ex3
        · rw [het, zI_toInt (by omega) (by omega)] at c3
          rw [if_pos (by omega)] at hq
          exact hq
      · rw [zI_toInt (by omega) (by omega)] at c2
        omega
    · rw [zI_toInt (by omega) (by omega), zI_toInt (by omega) (by omega)] at i1
      refine And.intro (fun c2 => ?_) (fun c2 => ?_)
      · rw [zI_toInt (by omega) (by omega)] at c2
        omega
      · exact hnl (by omega)
  · have hno : Q (some (vI (zI (-1)))) I0 Lg R (GM gc) := by
      rw [e0']
      refine hn (fun z => ?_)
      obtain ⟨r, hr, hx, hl, -⟩ := z
      have hxt : x1.toInt = r := by rw [hx, zI_toInt (by omega) (by omega)]
      rcases j1 with j1 | j1 | ⟨_, _, j1⟩
      · omega
      · omega
      · rw [hxt, Int.toNat_natCast, hpl r hr] at j1
        omega
    refine And.intro (fun c => ?_) (fun c => ?_)
    · exact hno
    · rw [zI_toInt (by omega) (by omega)] at c
      omega
