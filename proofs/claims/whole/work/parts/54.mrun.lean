/-! A run is told: the reference. -/
def mIx (r p v : Nat) : Prop := v = 12 * r + p
/-- the three rows of a run behind its first n places -/
def MRowAt (I I0 : II) (r n : Nat) (bs : Nat → Int) : Prop := (∀ p, p < n → I 132 0 (12 * r + p) = zI (bs (3 * p)) ∧ I 133 0 (12 * r + p) = zI (bs (3 * p + 1)) ∧ I 134 0 (12 * r + p) = zI (bs (3 * p + 2))) ∧ ∀ v, (v < 12 * r ∨ 12 * r + n ≤ v) → I 132 0 v = I0 132 0 v ∧ I 133 0 v = I0 133 0 v ∧ I 134 0 v = I0 134 0 v
set_option maxRecDepth 100000 in
theorem mrun_write {Γ : AMG} {Q : QQ} {d r : Nat} {x1 x2 x3 : Int32} {I : II} {Lg : LJ} {R : RR} {gc : Nat → Nat} {sz : Nat} {bs : Nat → Int} (ht : ∀ k, k < sz → I 125 0 k = zI (bs k)) (h12 : sz / 3 ≤ 12) (hr : r < 4) (hx1 : x1 = zI r) (hx3 : x3 = zI (sz / 3 : Nat))
    (h : ∀ I' : II, FrI (V0 [132, 133, 134]) I I' → MRowAt I' I r (sz / 3) bs → Q (some (vI (zI (sz / 3 : Nat)))) I' Lg R (GM gc)) :
    ∀ (m k : Nat) (x4 : Int32) (l5 l6 : Option AV) (I1 : II), k + m = sz / 3 → x4 = zI k → FrI (V0 [132, 133, 134]) I I1 → MRowAt I1 I r k bs →
      am_J Γ mX12_run Q d 0 0 139 [some (vR 12 0), some (vI x1), some (vI x2), some (vI x3), some (vI x4), l5, l6] [] I1 Lg R (GM gc) := by
  have hx3t : x3.toInt = (sz / 3 : Nat) := by rw [hx3, zI_toInt (by omega) (by omega)]
  intro m
  induction m with
  | zero =>
    intro k x4 l5 l6 I1 hk hx4 hf hm
    have hkn : k = sz / 3 := by omega
    subst hkn
    refine am_goN vX12_run 60 ?_
    refine And.intro (fun c => ?_) (fun c => ?_)
    · rw [hx3]
      exact h I1 hf hm
    · rw [hx4, hx3t, zI_toInt (by omega) (by omega)] at c
      omega
  | succ m ih =>
    intro k x4 l5 l6 I1 hk hx4 hf hm
    have hx4t : x4.toInt = k := by rw [hx4, zI_toInt (by omega) (by omega)]
    have i0 : (zI 3 * x4).toInt = ((3 * k : Nat) : Int) := by rw [hx4, zI_mul, zI_toInt (by omega) (by omega)]; omega
    have i1 : (zI 3 * x4 + zI 1).toInt = ((3 * k + 1 : Nat) : Int) := by rw [hx4, zI_mul, zI_add, zI_toInt (by omega) (by omega)]; omega
    have i2 : (zI 3 * x4 + zI 2).toInt = ((3 * k + 2 : Nat) : Int) := by rw [hx4, zI_mul, zI_add, zI_toInt (by omega) (by omega)]; omega
    have iw : (zI 12 * x1 + x4).toInt = ((12 * r + k : Nat) : Int) := by rw [hx1, hx4]; exact ix12 (by omega) (by omega)
    refine am_goN vX12_run 80 ?_
    refine And.intro (fun c => ?_) (fun c => ?_)
    · rw [hx4t, hx3t] at c
      omega
    refine And.intro ⟨by omega, by omega⟩ ?_
    refine And.intro ⟨by omega, by omega⟩ ?_
    refine fun y1 ey1 I2 e2 => ?_
    refine And.intro ⟨by omega, by omega⟩ ?_
    refine And.intro ⟨by omega, by omega⟩ ?_
    refine fun y2 ey2 I3 e3 => ?_
    refine And.intro ⟨by omega, by omega⟩ ?_
    refine And.intro ⟨by omega, by omega⟩ ?_
    refine fun y3 ey3 I4 e4 x4' ex4 => ?_
    rw [iw, Int.toNat_natCast] at e2 e3 e4
    have f2 : FrI (V0 [132, 133, 134]) I I2 := by rw [e2]; exact hf.up rfl
    have f3 : FrI (V0 [132, 133, 134]) I I3 := by rw [e3]; exact f2.up rfl
    rw [i0, Int.toNat_natCast, hf _ _ rfl, ht _ (by omega)] at ey1
    rw [i1, Int.toNat_natCast, f2 _ _ rfl, ht _ (by omega)] at ey2
    rw [i2, Int.toNat_natCast, f3 _ _ rfl, ht _ (by omega)] at ey3
    refine ih (k + 1) x4' _ _ I4 (by omega) (by rw [ex4, hx4, zI_add]; congr 1) (by rw [e4]; exact f3.up rfl) ⟨fun p hp => ?_, fun v hv => ?_⟩
    · rw [e4, up3_v _ (by decide), up3_v _ (by decide), e3, up3_v _ (by decide), e2]
      by_cases hpk : p = k
      · subst hpk
        refine ⟨?_, ?_, ?_⟩
        · rw [up3_s, ey1]
        · rw [up3_s, ey2]
        · rw [up3_s, ey3]
      · obtain ⟨q1, q2, q3⟩ := hm.1 p (by omega)
        refine ⟨?_, ?_, ?_⟩
        · rw [up3_j _ (by omega)]; exact q1
        · rw [up3_j _ (by omega), up3_v _ (by decide)]; exact q2
        · rw [up3_j _ (by omega), up3_v _ (by decide), up3_v _ (by decide)]; exact q3
    · obtain ⟨q1, q2, q3⟩ := hm.2 v (by omega)
      rw [e4, up3_v _ (by decide), up3_v _ (by decide), e3, up3_v _ (by decide), e2]
      refine ⟨?_, ?_, ?_⟩
      · rw [up3_j _ (by omega)]; exact q1
      · rw [up3_j _ (by omega), up3_v _ (by decide)]; exact q2
      · rw [up3_j _ (by omega), up3_v _ (by decide), up3_v _ (by decide)]; exact q3
def runAll (sz : Nat) (bs : Nat → Int) (nb : Nat) : Prop := ∀ p, p < sz / 3 → bs (3 * p) < nb ∧ goOk (sz / 3) p (bs (3 * p + 1)) ∧ goOk (sz / 3) p (bs (3 * p + 2))
set_option maxRecDepth 100000 in
theorem mrun_check {Γ : AMG} {Q : QQ} {d nb : Nat} {x1 x2 x3 : Int32} {I : II} {Lg : LJ} {R : RR} {gc : Nat → Nat} {sz : Nat} {bs : Nat → Int} (hb : BSsok sz bs) (ht : ∀ k, k < sz → I 125 0 k = zI (bs k)) (hnb : I 49 0 0 = zI nb) (hnb16 : nb ≤ 16) (h12 : sz / 3 ≤ 12) (hx3 : x3 = zI (sz / 3 : Nat))
    (hy : ∀ (x4 : Int32) (l5 l6 : Option AV), runAll sz bs nb → am_J Γ mX12_run Q d 0 0 129 [some (vR 12 0), some (vI x1), some (vI x2), some (vI x3), some (vI x4), l5, l6] [] I Lg R (GM gc))
    (hn : ¬ runAll sz bs nb → Q (some (vI (zI (-1)))) I Lg R (GM gc)) :
    ∀ (m k : Nat) (x4 : Int32) (l5 l6 : Option AV), k + m = sz / 3 → x4 = zI k → (∀ p, p < k → bs (3 * p) < nb ∧ goOk (sz / 3) p (bs (3 * p + 1)) ∧ goOk (sz / 3) p (bs (3 * p + 2))) →
      am_J Γ mX12_run Q d 0 0 47 [some (vR 12 0), some (vI x1), some (vI x2), some (vI x3), some (vI x4), l5, l6] [] I Lg R (GM gc) := by
  have hx3t : x3.toInt = (sz / 3 : Nat) := by rw [hx3, zI_toInt (by omega) (by omega)]
  intro m
  induction m with
  | zero =>
    intro k x4 l5 l6 hk hx4 hi
    refine am_go vX12_run 3 ?_
    refine And.intro (fun c => ?_) (fun c => ?_)
    · exact hy x4 l5 l6 (fun p hp => hi p (by omega))
    · rw [hx4, hx3t, zI_toInt (by omega) (by omega)] at c
      omega
  | succ m ih =>
    intro k x4 l5 l6 hk hx4 hi
    have hx4t : x4.toInt = k := by rw [hx4, zI_toInt (by omega) (by omega)]
    have hbt : (I 49 0 0).toInt = nb := by rw [hnb, zI_toInt (by omega) (by omega)]
    have b0 := hb.2 (3 * k)
    have b1 := hb.2 (3 * k + 1)
    have b2 := hb.2 (3 * k + 2)
    have i0 : (zI 3 * x4).toInt = ((3 * k : Nat) : Int) := by rw [hx4, zI_mul, zI_toInt (by omega) (by omega)]; omega
    -- one of the two ways on
    have way : ∀ (i : Nat) (x5 : Int32) (l6 : Option AV) (K : Prop), (i = 1 ∨ i = 2) → x5 = zI i → (∀ (x6 : Int32), goOk (sz / 3) k (bs (3 * k + i)) → am_J Γ mX12_run Q d 0 0 74 [some (vR 12 0), some (vI x1), some (vI x2), some (vI x3), some (vI x4), some (vI (x5 + zI 1)), some (vI x6)] [] I Lg R (GM gc)) → am_J Γ mX12_run Q d 0 0 74 [some (vR 12 0), some (vI x1), some (vI x2), some (vI x3), some (vI x4), some (vI x5), l6] [] I Lg R (GM gc) := by
      intro i x5 l6 K hi12 hx5 hg
      have bi := hb.2 (3 * k + i)
      have hx5t : x5.toInt = i := by rw [hx5, zI_toInt (by omega) (by omega)]
      have ii : (zI 3 * x4 + x5).toInt = ((3 * k + i : Nat) : Int) := by rw [hx4, hx5, zI_mul, zI_add, zI_toInt (by omega) (by omega)]; omega
      have htv : (I 125 0 (3 * k + i)).toInt = bs (3 * k + i) := by rw [ht _ (by omega), zI_toInt (by omega) (by omega)]
      have hna : ¬ goOk (sz / 3) k (bs (3 * k + i)) → ¬ runAll sz bs nb := fun q z => by
        have := z k (by omega)
        rcases hi12 with rfl | rfl
        · exact q this.2.1
        · exact q this.2.2
      refine am_J.er [true, true, true, true, true, true, false] ?_
      refine am_go vX12_run 80 ?_
      refine And.intro (fun c => ?_) (fun c => ?_)
      · rw [hx5t, zI_toInt (by omega) (by omega)] at c
        omega
      refine And.intro ⟨by omega, by omega⟩ ?_
      rw [ii, Int.toNat_natCast]
      refine And.intro (fun c2 => ?_) (fun c2 => ?_)
      · rw [htv, zI_toInt (by omega) (by omega)] at c2
        exact hg _ (Or.inl c2)
      · rw [htv, zI_toInt (by omega) (by omega)] at c2
        refine And.intro (fun c3 => ?_) (fun c3 => ?_)
        · rw [htv, hx4t] at c3
          exact hn (hna (by unfold goOk; omega))
        · rw [htv, hx4t] at c3
          refine And.intro (fun c4 => ?_) (fun c4 => ?_)
          · rw [htv, hx3t] at c4
            exact hg _ (Or.inr ⟨by omega, by omega⟩)
          · rw [htv, hx3t] at c4
            exact hn (hna (by unfold goOk; omega))
    refine am_go vX12_run 80 ?_
    refine And.intro (fun c => ?_) (fun c => ?_)
    · rw [hx4t, hx3t] at c
      omega
    refine And.intro ⟨by omega, by omega⟩ ?_
    refine And.intro (fun c => ?_) (fun c => ?_)
    · rw [i0, Int.toNat_natCast, ht _ (by omega), hbt, zI_toInt (by omega) (by omega)] at c
      refine way 1 _ _ True (Or.inl rfl) rfl (fun x6 g1 => ?_)
      refine way 2 _ _ True (Or.inr rfl) (by rw [zI_add]; rfl) (fun x6 g2 => ?_)
      refine am_go vX12_run 80 ?_
      refine And.intro (fun c2 => ?_) (fun c2 => ?_)
      · refine ih (k + 1) _ _ _ (by omega) (by rw [hx4, zI_add]; congr 1) (fun p hp => ?_)
        by_cases hpk : p = k
        · subst hpk; exact ⟨c, g1, g2⟩
        · exact hi p (by omega)
      · rw [zI_add, zI_add, zI_toInt (by omega) (by omega), zI_toInt (by omega) (by omega)] at c2
        omega
    · rw [i0, Int.toNat_natCast, ht _ (by omega), hbt, zI_toInt (by omega) (by omega)] at c
      exact hn (fun z => by have := (z k (by omega)).1; omega)
