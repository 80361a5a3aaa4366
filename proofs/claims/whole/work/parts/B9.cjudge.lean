/-! The carpenter judges. -/
def errV (nW : Nat) (kn sm : Int) : Int := sm + 100 * max 0 (nW - kn)
def LaidAt (I : II) (q : List Nat) : Prop := ∀ j, j < 4 → I 89 0 j = zI (q.getD j 0)
theorem judge_loop {Γ : AMG} {Q : QQ} {d dep : Nat} {x2 x3 x4 : Int32} {I : II} {Lg : LJ} {R : RR} {gc : Nat → Nat} {pre : List Nat} (hx2 : x2 = zI dep) (hd : dep < 4) (hpl : pre.length = dep + 1) (hch : ∀ j, j ≤ dep → I 88 0 j = zI (pre.getD j 0))
    (h : ∀ I' : II, FrI (V0 [89]) I I' → LaidAt I' pre → Q none I' Lg R (GM gc)) :
    ∀ (m k : Nat) (x5 : Int32) (I1 : II), k + m = 4 → x5 = zI k → FrI (V0 [89]) I I1 → (∀ j, j < k → I1 89 0 j = zI (pre.getD j 0)) → am_J Γ mX2_judge Q d 0 0 56 [some (vR 2 0), some (vR 10 0), some (vI x2), some (vI x3), some (vI x4), some (vI x5)] [] I1 Lg R (GM gc) := by
  intro m
  induction m with
  | zero =>
    intro k x5 I1 hm hx f1 hl
    refine am_goN vX2_judge 3 ?_
    refine And.intro (fun c => ?_) (fun c => ?_)
    · refine am_goN vX2_judge 3 ?_
      exact h I1 f1 (fun j hj => hl j (by omega))
    · rw [hx, zI_toInt (by omega) (by omega), zI_toInt (by omega) (by omega)] at c
      omega
  | succ m ih =>
    intro k x5 I1 hm hx f1 hl
    have hxt : x5.toInt = k := by rw [hx, zI_toInt (by omega) (by omega)]
    have hxn : x5.toInt.toNat = k := by omega
    have h2t : x2.toInt = dep := by rw [hx2, zI_toInt (by omega) (by omega)]
    refine am_goN vX2_judge 3 ?_
    refine And.intro (fun c => ?_) (fun c => ?_)
    · rw [hxt, zI_toInt (by omega) (by omega)] at c
      omega
    have step : ∀ (I2 : II) (y : Int32), I2 = up3 I1 89 0 k y → y = zI (pre.getD k 0) → ∀ z5 : Int32, z5 = x5 + zI 1 → am_J Γ mX2_judge Q d 0 0 56 [some (vR 2 0), some (vR 10 0), some (vI x2), some (vI x3), some (vI x4), some (vI z5)] [] I2 Lg R (GM gc) := by
      intro I2 y e2 ey z5 ez
      refine ih (k + 1) z5 I2 (by omega) (by rw [ez, hx, zI_add]; congr 1) (f1.tr (by rw [e2]; exact FrI.rf.up rfl)) (fun j hj => ?_)
      by_cases q : j = k
      · subst q
        rw [e2, up3_s, ey]
      · rw [e2, up3_j _ q]
        exact hl j (by omega)
    refine am_goN vX2_judge 6 ?_
    refine And.intro (fun c => ?_) (fun c => ?_)
    · rw [hxt, h2t] at c
      refine am_goN vX2_judge 2 ?_
      refine And.intro ⟨by omega, by omega⟩ ?_
      rw [hxn]
      refine fun y ey I2 e2 => ?_
      refine am_goN vX2_judge 2 ?_
      refine fun z5 ez => ?_
      refine step I2 y e2 ?_ z5 ez
      rw [ey]
      simp [List.getD, List.getElem?_eq_none (by omega : pre.length ≤ k)]
    · rw [hxt, h2t] at c
      refine am_goN vX2_judge 6 ?_
      refine And.intro ⟨by omega, by omega⟩ ?_
      refine And.intro ⟨by omega, by omega⟩ ?_
      rw [hxn]
      refine fun y ey I2 e2 => ?_
      refine am_goN vX2_judge 2 ?_
      refine fun z5 ez => ?_
      refine step I2 y e2 ?_ z5 ez
      rw [ey, f1 _ _ rfl]
      exact hch k (by omega)
set_option maxRecDepth 100000 in
theorem s_judge {Γ : AMG} {Q : QQ} {d dep row : Nat} {x2 x3 : Int32} {I : II} {Lg : LJ} {R : RR} {gc : Nat → Nat} {pre : List Nat} {nW : Nat} {W : Nat → Int} {kn sm le : Int} (hT : TKAt I nW W) (hx2 : x2 = zI dep) (hx3 : x3 = zI row) (hd : dep < 4) (hrow : row < 13) (hpl : pre.length = dep + 1) (hch : ∀ j, j ≤ dep → I 88 0 j = zI (pre.getD j 0)) (hk : I 86 0 row = zI kn) (hs : I 87 0 row = zI sm) (hkr : 0 ≤ kn ∧ kn ≤ 1000) (hsr : 0 ≤ sm ∧ sm ≤ 10000000) (hle : I 15 0 0 = zI le) (hler : 0 ≤ le ∧ le ≤ 100000000)
    (hN : ¬ errV nW kn sm < le → Q none I Lg R (GM gc))
    (hY : errV nW kn sm < le → ∀ I' : II, FrI (V0 [15, 89]) I I' → I' 15 0 0 = zI (errV nW kn sm) → LaidAt I' pre → Q none I' Lg R (GM gc)) :
    am_Sp Γ (d + 1) 0 0 mX2_judge [vR 2 0, vR 10 0, vI x2, vI x3] I Lg R (GM gc) Q := by
  have hnW := hT.2.1
  have h3 : x3.toInt = row := by rw [hx3, zI_toInt (by omega) (by omega)]
  have h3n : x3.toInt.toNat = row := by omega
  have her : 0 ≤ errV nW kn sm ∧ errV nW kn sm ≤ 10010000 := by unfold errV; omega
  refine am_runN vX2_judge 2 _ rfl rfl rfl rfl ?_
  refine And.intro (fun c => ?_) (fun _ => ?_)
  · omega
  refine am_goN vX2_judge 3 ?_
  refine And.intro (fun _ => ?_) (fun c => ?_)
  · refine am_goN vX2_judge 17 ?_
    refine And.intro ⟨by omega, by omega⟩ ?_
    refine And.intro ⟨by omega, by omega⟩ ?_
    rw [h3n]
    refine fun x4 ex4 => ?_
    have hx4 : x4 = zI (errV nW kn sm) := by
      rw [ex4, hs, hk, hT.1, zI_sub, am_max_z (by omega) (by omega) (by omega) (by omega), zI_mul, zI_add]
      rfl
    have h4 : x4.toInt = errV nW kn sm := by rw [hx4, zI_toInt (by omega) (by omega)]
    have hlt : (I 15 0 0).toInt = le := by rw [hle, zI_toInt (by omega) (by omega)]
    refine am_goN vX2_judge 4 ?_
    refine And.intro (fun c => ?_) (fun c => ?_)
    · rw [h4, hlt] at c
      refine am_goN vX2_judge 2 ?_
      exact hN (by omega)
    · rw [h4, hlt] at c
      refine am_goN vX2_judge 5 ?_
      refine fun y1 ey1 I1 e1 x5 ex5 => ?_
      have f1 : FrI (V0 [15]) I I1 := by rw [e1]; exact FrI.rf.up rfl
      refine judge_loop (I := I1) hx2 hd hpl (fun j hj => by rw [f1 _ _ rfl]; exact hch j hj) (fun I2 f2 l2 => ?_) 4 0 x5 I1 (by omega) ex5 FrI.rf (fun j hj => absurd hj (by omega))
      refine hY c I2 ((f1.mono (fun v i q => V0_sub (by decide) q)).tr (f2.mono (fun v i q => V0_sub (by decide) q))) ?_ l2
      rw [f2 _ _ rfl, e1, up3_s, ey1, hx4]
  · rw [h3, zI_toInt (by omega) (by omega)] at c
    omega
set_option maxRecDepth 100000 in
theorem s_leastPossible {Γ : AMG} {Q : QQ} {d row many : Nat} {x2 : Int32} {I : II} {Lg : LJ} {R : RR} {gc : Nat → Nat} {nW : Nat} {W : Nat → Int} {kn sm : Int} (hT : TKAt I nW W) (hx2 : x2 = zI row) (hrow : row < 13) (hm : I 13 0 0 = zI many) (hmr : many ≤ 4) (hk : I 86 0 row = zI kn) (hs : I 87 0 row = zI sm) (hkr : 0 ≤ kn ∧ kn ≤ 1000) (hsr : 0 ≤ sm ∧ sm ≤ 10000000)
    (h : Q (some (vI (zI (sm + 100 * max 0 (nW - kn - ((many : Int) - row)))))) I Lg R (GM gc)) :
    am_Sp Γ (d + 1) 0 0 mX2_leastPossible [vR 2 0, vR 10 0, vI x2] I Lg R (GM gc) Q := by
  have hnW := hT.2.1
  have h2 : x2.toInt = row := by rw [hx2, zI_toInt (by omega) (by omega)]
  have h2n : x2.toInt.toNat = row := by omega
  refine am_runN vX2_leastPossible 2 _ rfl rfl rfl rfl ?_
  refine And.intro (fun c => ?_) (fun _ => ?_)
  · omega
  refine am_goN vX2_leastPossible 3 ?_
  refine And.intro (fun _ => ?_) (fun c => ?_)
  · refine am_goN vX2_leastPossible 13 ?_
    refine And.intro ⟨by omega, by omega⟩ ?_
    rw [h2n]
    refine fun x3 ex3 => ?_
    have hx3 : x3 = zI (nW - kn - ((many : Int) - row)) := by rw [ex3, hT.1, hk, hm, hx2, zI_sub, zI_sub, zI_sub]
    refine am_goN vX2_leastPossible 20 ?_
    refine And.intro ⟨by omega, by omega⟩ ?_
    rw [h2n]
    have he : zI (sm + 100 * max 0 (nW - kn - ((many : Int) - row))) = I 87 0 row + zI 100 * am_max (zI 0) x3 := by
      rw [hx3, hs, am_max_z (by omega) (by omega) (by omega) (by omega), zI_mul, zI_add]
    rw [he] at h
    exact h
  · rw [h2, zI_toInt (by omega) (by omega)] at c
    omega
