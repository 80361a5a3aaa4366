/-! The told ticks in the reference. -/
set_option maxRecDepth 100000 in
theorem takeTicks_loop {Γ : AMG} {Q : QQ} {d : Nat} {x1 : Int32} {I : II} {Lg : LJ} {R : RR} {gc : Nat → Nat} {sz : Nat} {bs : Nat → Int} (hb : BSsok sz bs) (ht : ∀ k, k < sz → I 125 0 k = zI (bs k)) (hw : I 80 0 0 = zI (sz / 2 : Nat)) (h2 : sz % 2 = 0) (h20 : sz ≤ 20)
    (hy : tkOk sz bs → ∀ I' : II, FrI (V0 [175]) I I' → (∀ k, k < sz / 2 → I' 175 0 k = zI (tkv bs k)) → Q (some (vI (zI 1))) I' Lg R (GM gc))
    (hn : ¬ tkOk sz bs → ∀ I' : II, FrI (V0 [175]) I I' → Q (some (vI (zI 0))) I' Lg R (GM gc)) :
    ∀ (m k : Nat) (x2 : Int32) (I1 : II), k + m = sz / 2 → x2 = zI k → FrI (V0 [175]) I I1 → (∀ j, j < k → I1 175 0 j = zI (tkv bs j)) → (∀ j, j + 1 < k → tkv bs j < tkv bs (j + 1)) →
      am_J Γ mX12_takeTicks Q d 0 0 33 [some (vR 12 0), some (vI x1), some (vI x2)] [] I1 Lg R (GM gc) := by
  intro m
  induction m with
  | zero =>
    intro k x2 I1 hk hx2 hf ha hi
    have hwt : (I1 80 0 0).toInt = (sz / 2 : Nat) := by rw [hf _ _ rfl, hw, zI_toInt (by omega) (by omega)]
    refine am_goN vX12_takeTicks 60 ?_
    refine And.intro (fun c => ?_) (fun c => ?_)
    · exact ⟨Or.inr rfl, hy ⟨h2, h20, fun j hj => hi j (by omega)⟩ I1 hf (fun j hj => ha j (by omega))⟩
    · rw [hwt, hx2, zI_toInt (by omega) (by omega)] at c
      omega
  | succ m ih =>
    intro k x2 I1 hk hx2 hf ha hi
    have hwt : (I1 80 0 0).toInt = (sz / 2 : Nat) := by rw [hf _ _ rfl, hw, zI_toInt (by omega) (by omega)]
    have hx2t : x2.toInt = k := by rw [hx2, zI_toInt (by omega) (by omega)]
    have hv := tkv_rng hb k
    have hi1 : (zI 2 * x2).toInt = ((2 * k : Nat) : Int) := by rw [hx2, zI_mul, zI_toInt (by omega) (by omega)]; omega
    have hi2 : (zI 2 * x2 + zI 1).toInt = ((2 * k + 1 : Nat) : Int) := by rw [hx2, zI_mul, zI_add, zI_toInt (by omega) (by omega)]; omega
    refine am_goN vX12_takeTicks 80 ?_
    refine And.intro (fun c => ?_) (fun c => ?_)
    · rw [hwt, hx2t] at c
      omega
    refine And.intro ⟨by omega, by omega⟩ ?_
    refine And.intro ⟨by omega, by omega⟩ ?_
    refine And.intro ⟨by omega, by omega⟩ ?_
    refine fun y ey I2 e2 => ?_
    rw [hi1, hi2, Int.toNat_natCast, Int.toNat_natCast, hf _ _ rfl, ht (2 * k) (by omega), ht (2 * k + 1) (by omega), zI_mul, zI_add] at ey
    have ey' : y = zI (tkv bs k) := ey
    rw [hx2t, Int.toNat_natCast] at e2
    have hf2 : FrI (V0 [175]) I I2 := by rw [e2]; exact hf.up rfl
    have ha2 : ∀ j, j < k + 1 → I2 175 0 j = zI (tkv bs j) := by
      intro j hj
      rw [e2]
      by_cases hjk : j = k
      · rw [hjk, up3_s, ey']
      · rw [up3_j _ hjk]; exact ha j (by omega)
    refine And.intro (fun c2 => ?_) (fun c2 => ?_)
    · rw [hx2t] at c2
      refine fun x2' ex2 => ?_
      exact ih (k + 1) x2' I2 (by omega) (by rw [ex2, hx2, zI_add]; congr 1) hf2 ha2 (fun j hj => by omega)
    · rw [hx2t] at c2
      have hv1 := tkv_rng hb (k - 1)
      have hi3 : (x2 - zI 1).toInt = ((k - 1 : Nat) : Int) := by rw [hx2, zI_sub, zI_toInt (by omega) (by omega)]; omega
      refine And.intro ⟨by omega, by omega⟩ ?_
      refine And.intro ⟨by omega, by omega⟩ ?_
      have w1 : (I2 175 0 x2.toInt.toNat).toInt = tkv bs k := by rw [hx2t, Int.toNat_natCast, ha2 k (by omega), zI_toInt (by omega) (by omega)]
      have w2 : (I2 175 0 (x2 - zI 1).toInt.toNat).toInt = tkv bs (k - 1) := by rw [hi3, Int.toNat_natCast, ha2 (k - 1) (by omega), zI_toInt (by omega) (by omega)]
      refine And.intro (fun c3 => ?_) (fun c3 => ?_)
      · rw [w1, w2] at c3
        refine fun x2' ex2 => ?_
        refine ih (k + 1) x2' I2 (by omega) (by rw [ex2, hx2, zI_add]; congr 1) hf2 ha2 (fun j hj => ?_)
        by_cases hjk : j + 1 = k
        · have : k - 1 = j := by omega
          rw [this] at c3
          rw [hjk]
          omega
        · exact hi j (by omega)
      · rw [w1, w2] at c3
        refine ⟨Or.inl rfl, hn (fun q => ?_) I2 hf2⟩
        have := q.2.2 (k - 1) (by omega)
        rw [show k - 1 + 1 = k by omega] at this
        omega
set_option maxRecDepth 100000 in
theorem s_takeTicks {Γ : AMG} {Q : QQ} {d : Nat} {I : II} {Lg : LJ} {R : RR} {gc : Nat → Nat} {sz : Nat} {bs : Nat → Int} (hb : BSsok sz bs) (ht : MTapeAt I sz bs)
    (hy : tkOk sz bs → ∀ I' : II, FrI (V0 [48, 80, 175]) I I' → I' 48 0 0 = zI 0 → I' 80 0 0 = zI (sz / 2 : Nat) → (∀ k, k < sz / 2 → I' 175 0 k = zI (tkv bs k)) → Q (some (vI (zI 1))) I' Lg R (GM gc))
    (hn : ¬ tkOk sz bs → ∀ I' : II, FrI (V0 [48, 80, 175]) I I' → I' 48 0 0 = zI 0 → Q (some (vI (zI 0))) I' Lg R (GM gc)) :
    am_Sp Γ d 0 0 mX12_takeTicks [vR 12 0] I Lg R (GM gc) Q := by
  have hsz := hb.1
  refine am_runN vX12_takeTicks 60 _ rfl rfl rfl rfl ?_
  refine fun x1 ex1 y1 ey1 I1 e1 => ?_
  rw [ht.1] at ex1
  refine And.intro (by rw [zI_toInt (by omega) (by omega)]; omega) ?_
  refine fun y2 ey2 I2 e2 => ?_
  have hf : FrI (V0 [48, 80, 175]) I I2 := by rw [e2, e1]; exact (FrI.rf.up rfl).up rfl
  have hw : I2 80 0 0 = zI (sz / 2 : Nat) := by rw [e2, up3_s, ey2, ex1, zI_divN (by omega) (by omega) (by omega) (by omega)]; congr 1
  have htd : I2 48 0 0 = zI 0 := by rw [e2, up3_v _ (by decide), e1, up3_s, ey1]
  refine And.intro (fun c => ?_) (fun c => ?_)
  · rw [ex1, zI_toInt (by omega) (by omega), zI_toInt (by omega) (by omega)] at c
    exact ⟨Or.inl rfl, hn (fun q => by have := q.2.1; omega) I2 hf htd⟩
  · rw [ex1, zI_toInt (by omega) (by omega), zI_toInt (by omega) (by omega)] at c
    refine And.intro (by rw [zI_toInt (by omega) (by omega)]; omega) ?_
    refine And.intro (fun c2 => ?_) (fun c2 => ?_)
    · rw [ex1, zI_remN (by omega) (by omega) (by omega) (by omega), zI_toInt (by omega) (by omega)] at c2
      refine fun x2 ex2 => ?_
      exact takeTicks_loop hb (I := I2) (fun k hk => by rw [hf _ _ rfl]; exact ht.2 k hk) hw (by omega) (by omega) (fun q I3 f3 a3 => hy q I3 (hf.tr (f3.mono (fun v i h => V0_sub (by decide) h))) (by rw [f3 _ _ rfl]; exact htd) (by rw [f3 _ _ rfl]; exact hw) a3) (fun q I3 f3 => hn q I3 (hf.tr (f3.mono (fun v i h => V0_sub (by decide) h))) (by rw [f3 _ _ rfl]; exact htd)) (sz / 2) 0 x2 I2 (by omega) ex2 FrI.rf (fun j hj => by omega) (fun j hj => by omega)
    · rw [ex1, zI_remN (by omega) (by omega) (by omega) (by omega), zI_toInt (by omega) (by omega)] at c2
      exact ⟨Or.inl rfl, hn (fun q => by have := q.1; omega) I2 hf htd⟩
