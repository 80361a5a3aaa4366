/-! worn of the reference, whole. -/
abbrev mlessv : List Nat := [135, 50, 51, 52, 53, 54, 55, 57, 56, 136, 137, 138]
/-- what has changed: less, at the places of the run alone -/
def LWI (r n : Nat) (I I' : II) : Prop := FrI (V0 mlessv) I I' ∧ ∀ v, (v < 12 * r ∨ 12 * r + n ≤ v) → I' 135 0 v = zI 0
set_option maxRecDepth 100000 in
theorem mworn_less {Γ : AMG} {Q : QQ} {d r n M : Nat} {x1 x2 x3 : Int32} {I : II} {Lg : LJ} {R : RR} {gc : Nat → Nat} (hr : r < 4) (hn : n ≤ 12) (hM : M < 2 ^ n) (hx1 : x1 = zI r) (hx3 : x3 = zI (M : Int)) (hpo : I 131 0 r = zI n)
    (h : ∀ (l5 : Option AV) (I' : II), FrI (V0 [135]) I I' → (∀ p, p < n → I' 135 0 (12 * r + p) = zI (lsM M p)) → (∀ v, (v < 12 * r ∨ 12 * r + n ≤ v) → I' 135 0 v = I 135 0 v) → am_J Γ mX12_worn Q d 0 0 130 [some (vR 12 0), some (vI x1), some (vI x2), some (vI x3), none, l5] [] I' Lg R (GM gc)) :
    ∀ (m p : Nat) (x5 : Int32) (I1 : II), p + m = n → x5 = zI p → FrI (V0 [135]) I I1 → (∀ j, j < p → I1 135 0 (12 * r + j) = zI (lsM M j)) → (∀ v, (v < 12 * r ∨ 12 * r + n ≤ v) → I1 135 0 v = I 135 0 v) → am_J Γ mX12_worn Q d 0 0 95 [some (vR 12 0), some (vI x1), some (vI x2), some (vI x3), none, some (vI x5)] [] I1 Lg R (GM gc) := by
  have hM2 : M < 4096 := Nat.lt_of_lt_of_le hM (Nat.pow_le_pow_right (j := 12) (by omega) hn)
  have h1 : x1.toInt = r := by rw [hx1, zI_toInt (by omega) (by omega)]
  have h1n : x1.toInt.toNat = r := by omega
  intro m
  induction m with
  | zero =>
    intro p x5 I1 hm hx5 f1 hl ho
    have hpt : (I1 131 0 r).toInt = n := by rw [f1 _ _ rfl, hpo, zI_toInt (by omega) (by omega)]
    refine am_goN vX12_worn 6 ?_
    refine And.intro ⟨by omega, by omega⟩ ?_
    rw [h1n]
    refine And.intro (fun _ => ?_) (fun c => ?_)
    · exact h _ I1 f1 (fun j hj => hl j (by omega)) ho
    · rw [hpt, hx5, zI_toInt (by omega) (by omega)] at c
      omega
  | succ m ih =>
    intro p x5 I1 hm hx5 f1 hl ho
    have hpt : (I1 131 0 r).toInt = n := by rw [f1 _ _ rfl, hpo, zI_toInt (by omega) (by omega)]
    have hix : (zI 12 * x1 + x5).toInt = ((12 * r + p : Nat) : Int) := by rw [hx1, hx5]; exact ix12 (by omega) (by omega)
    have hixn : (zI 12 * x1 + x5).toInt.toNat = 12 * r + p := by omega
    refine am_goN vX12_worn 6 ?_
    refine And.intro ⟨by omega, by omega⟩ ?_
    rw [h1n]
    refine And.intro (fun c => ?_) (fun _ => ?_)
    · rw [hpt, hx5, zI_toInt (by omega) (by omega)] at c
      omega
    refine am_goN vX12_worn 15 ?_
    refine And.intro ⟨by omega, by omega⟩ ?_
    rw [hixn]
    refine fun y1 ey1 I2 e2 y5 ey5 => ?_
    have hy1 : y1 = zI (lsM M p) := by
      rw [ey1, hx3, hx5, gb_s (by omega), gb_nat hM2 (by omega)]
      unfold lsM
      cases M.testBit p <;> rfl
    refine ih (p + 1) y5 I2 (by omega) (by rw [ey5, hx5, zI_add]; congr 1) (by rw [e2]; exact f1.up rfl) (fun j hj => ?_) (fun v hv => ?_)
    · rw [e2]
      by_cases z : j = p
      · subst z
        rw [up3_s, hy1]
      · rw [up3_j _ (by omega)]
        exact hl j (by omega)
    · rw [e2, up3_j _ (by omega)]
      exact ho v hv
set_option maxRecDepth 100000 in
theorem mworn_zero {Γ : AMG} {Q : QQ} {d r : Nat} {x1 x2 : Int32} {I : II} {Lg : LJ} {R : RR} {gc : Nat → Nat} (hr : r < 4) (hx1 : x1 = zI r) (h0 : ∀ v, (v < 12 * r ∨ 12 * r + 12 ≤ v) → I 135 0 v = zI 0)
    (h : ∀ (I' : II), FrI (V0 [135]) I I' → (∀ v, I' 135 0 v = zI 0) → Q (some (vI x2)) I' Lg R (GM gc)) :
    ∀ (m p : Nat) (x3 : Int32) (l4 l5 : Option AV) (I1 : II), p + m = 12 → x3 = zI p → FrI (V0 [135]) I I1 → (∀ j, j < p → I1 135 0 (12 * r + j) = zI 0) → (∀ v, (v < 12 * r ∨ 12 * r + 12 ≤ v) → I1 135 0 v = zI 0) → am_J Γ mX12_worn Q d 0 0 153 [some (vR 12 0), some (vI x1), some (vI x2), some (vI x3), l4, l5] [] I1 Lg R (GM gc) := by
  intro m
  induction m with
  | zero =>
    intro p x3 l4 l5 I1 hm hx3 f1 hl ho
    refine am_J.er [true, true, true, true, false, false] ?_
    refine am_goN vX12_worn 3 ?_
    refine And.intro (fun _ => ?_) (fun c => ?_)
    · refine am_goN vX12_worn 3 ?_
      refine h I1 f1 (fun v => ?_)
      by_cases z : v < 12 * r ∨ 12 * r + 12 ≤ v
      · exact ho v z
      · have := hl (v - 12 * r) (by omega)
        rwa [show 12 * r + (v - 12 * r) = v by omega] at this
    · rw [hx3, zI_toInt (by omega) (by omega), zI_toInt (by omega) (by omega)] at c
      omega
  | succ m ih =>
    intro p x3 l4 l5 I1 hm hx3 f1 hl ho
    have hix : (zI 12 * x1 + x3).toInt = ((12 * r + p : Nat) : Int) := by rw [hx1, hx3]; exact ix12 (by omega) (by omega)
    have hixn : (zI 12 * x1 + x3).toInt.toNat = 12 * r + p := by omega
    refine am_J.er [true, true, true, true, false, false] ?_
    refine am_goN vX12_worn 3 ?_
    refine And.intro (fun c => ?_) (fun _ => ?_)
    · rw [hx3, zI_toInt (by omega) (by omega), zI_toInt (by omega) (by omega)] at c
      omega
    refine am_goN vX12_worn 11 ?_
    refine And.intro ⟨by omega, by omega⟩ ?_
    rw [hixn]
    refine fun y1 ey1 I2 e2 y3 ey3 => ?_
    refine ih (p + 1) y3 _ _ I2 (by omega) (by rw [ey3, hx3, zI_add]; congr 1) (by rw [e2]; exact f1.up rfl) (fun j hj => ?_) (fun v hv => ?_)
    · rw [e2]
      by_cases z : j = p
      · subst z
        rw [up3_s, ey1]
      · rw [up3_j _ (by omega)]
        exact hl j (by omega)
    · rw [e2, up3_j _ (by omega)]
      exact ho v hv
set_option maxRecDepth 100000 in
theorem mworn_sets {Γ : AMG} {Q : QQ} {d r nW : Nat} {W : Nat → Int} {ans : Int} {x1 : Int32} {I : II} {Lg : LJ} {R : RR} {gc : Nat → Nat} {rn : RUN} (hrn : RUNok rn) (hn : 0 < rn.length) (hr : r < 4) (hM : MRunG I r (zI 0) rn) (hpo : I 131 0 r = zI rn.length) (hnW : nW ≤ 10) (hw : I 80 0 0 = zI nW) (hwd : ∀ k, k < nW → I 175 0 k = zI (W k)) (hW : ∀ k, 0 ≤ W k ∧ W k ≤ 65535) (hx1 : x1 = zI r) (hA : WAns (Expl rn nW W) (2 ^ rn.length) ans)
    (h : ∀ I' : II, FrI (V0 mlessv) I I' → (∀ v, I' 135 0 v = zI 0) → Q (some (vI (zI ans))) I' Lg R (GM gc)) :
    ∀ (m k : Nat) (best : Int) (x2 x3 : Int32) (l4 l5 : Option AV) (I1 : II), k + m = 2 ^ rn.length → x3 = zI (k : Int) → x2 = zI best → WInv (Expl rn nW W) ans k best → LWI r rn.length I I1 → am_J Γ mX12_worn Q (d + 3) 0 0 27 [some (vR 12 0), some (vI x1), some (vI x2), some (vI x3), l4, l5] [] I1 Lg R (GM gc) := by
  have hlen := hrn.1
  have hN : 2 ^ rn.length ≤ 4096 := Nat.pow_le_pow_right (j := 12) (by omega) hlen
  have h1 : x1.toInt = r := by rw [hx1, zI_toInt (by omega) (by omega)]
  have h1n : x1.toInt.toNat = r := by omega
  have hsh : zI 1 <<< (zI (rn.length : Int) &&& 31) = zI ((2 ^ rn.length : Nat) : Int) := by
    have := zI_shl (a := 1) (k := rn.length) (by omega) (by omega)
    rw [Nat.one_mul] at this
    exact this
  intro m
  induction m with
  | zero =>
    intro k best x2 x3 l4 l5 I1 hm hx3 hx2 hinv f1
    refine am_J.er [true, true, true, true, false, false] ?_
    refine am_goN vX12_worn 8 ?_
    refine And.intro ⟨by omega, by omega⟩ ?_
    rw [h1n, f1.1 _ _ rfl, hpo]
    refine And.intro (fun _ => ?_) (fun c => ?_)
    · refine am_goN vX12_worn 2 ?_
      refine fun y3 ey3 => ?_
      have hfin := WInv.fin (N := 2 ^ rn.length) (by rw [show k = 2 ^ rn.length by omega] at hinv; exact hinv) hA
      refine mworn_zero (I := I1) hr hx1 (fun v hv => f1.2 v (by omega)) (fun I2 f2 z2 => ?_) 12 0 y3 _ _ I1 (by omega) ey3 FrI.rf (fun j hj => absurd hj (by omega)) (fun v hv => f1.2 v (by omega))
      rw [hx2, hfin]
      exact h I2 (f1.1.tr (f2.mono (fun v i q => V0_sub (by decide) q))) z2
    · have c : x3.toInt < (zI 1 <<< (zI (rn.length : Int) &&& 31)).toInt := c
      rw [hsh, hx3, zI_toInt (by omega) (by omega), zI_toInt (by omega) (by omega)] at c
      omega
  | succ m ih =>
    intro k best x2 x3 l4 l5 I1 hm hx3 hx2 hinv f1
    have h3 : x3.toInt = k := by rw [hx3, zI_toInt (by omega) (by omega)]
    have hbr : -2 ≤ best ∧ best < k := by
      rcases hinv.1 with ⟨z, -⟩ | ⟨b, z1, z2, -⟩ <;> omega
    have h2 : x2.toInt = best := by rw [hx2, zI_toInt (by omega) (by omega)]
    -- on to the next set
    have k145 : ∀ (best' : Int) (y2 : Int32) (l4 l5 : Option AV) (I5 : II), LWI r rn.length I I5 → y2 = zI best' → WInv (Expl rn nW W) ans (k + 1) best' → am_J Γ mX12_worn Q (d + 3) 0 0 145 [some (vR 12 0), some (vI x1), some (vI y2), some (vI x3), l4, l5] [] I5 Lg R (GM gc) := by
      intro best' y2 l4 l5 I5 f5 hy2 hv
      refine am_J.er [true, true, true, true, false, false] ?_
      refine am_goN vX12_worn 2 ?_
      refine fun y3 ey3 => ?_
      exact ih (k + 1) best' y2 y3 _ _ I5 (by omega) (by rw [ey3, hx3, zI_add]; congr 1) hy2 hv f5
    -- the set is tried
    have k92 : ∀ (l4 l5 : Option AV), (best < 0 ∨ ∃ b : Nat, best = b ∧ ¬ pop b < pop k ∧ (pop k = pop b → preL k b)) → am_J Γ mX12_worn Q (d + 3) 0 0 92 [some (vR 12 0), some (vI x1), some (vI x2), some (vI x3), l4, l5] [] I1 Lg R (GM gc) := by
      intro l4 l5 hns
      refine am_J.er [true, true, true, true, false, false] ?_
      refine am_goN vX12_worn 2 ?_
      refine fun x5 ex5 => ?_
      refine mworn_less (I := I1) (n := rn.length) (M := k) hr hlen (by omega) hx1 hx3 (by rw [f1.1 _ _ rfl]; exact hpo) (fun l5 I2 f2 hl2 ho2 => ?_) rn.length 0 x5 I1 (by omega) ex5 FrI.rf (fun j hj => absurd hj (by omega)) (fun _ _ => rfl)
      have F2 : FrI (V0 mlessv) I I2 := f1.1.tr (f2.mono (fun v i q => V0_sub (by decide) q))
      have hls2 : ∀ p, p < 12 → I2 135 0 (12 * r + p) = zI (lsM k p) := fun p hp => by
        by_cases z : p < rn.length
        · exact hl2 p z
        · rw [ho2 _ (by omega), f1.2 _ (by omega), lsM_f (tb_ge (n := rn.length) (by omega) (by omega))]
      refine am_J.er [true, true, true, true, false, false] ?_
      refine am_goN vX12_worn 4 ?_
      refine s_mfollow (ls := lsM k) hrn hn (hM.fr F2 (fun v hv => V0_outI (by decide) v hv 0)) (lsM_ok k) hls2 (by omega) hx1 (fun I3 st' f3 mf => ?_)
      have F3 : FrI (V0 mlessv) I I3 := F2.tr (f3.mono (fun v i q => V0_sub (by decide) q))
      obtain ⟨-, -, -, kn3, k3⟩ := mf
      have hok9 := foll_ok (g := zI 0) hrn (lsM_ok k) 2000 1 FS0 (by omega) (FS0_ok hrn hn)
      have L3 : LWI r rn.length I I3 := ⟨F3, fun v hv => by
        rw [f3 _ _ rfl, ho2 v (by omega)]
        exact f1.2 v hv⟩
      refine am_goN vX12_worn 3 ?_
      refine s_explains hnW (by rw [F3 _ _ rfl]; exact hw) (fun j hj => by rw [F3 _ _ rfl]; exact hwd j hj) hW kn3 hok9.2.1 k3 fall9_tk (fun hE => ?_) (fun hE => ?_)
      · refine And.intro (fun c => ?_) (fun _ => ?_)
        · rw [zI_toInt (by omega) (by omega)] at c
          omega
        refine am_goN vX12_worn 2 ?_
        refine fun y2 ey2 => ?_
        exact k145 (k : Int) y2 _ _ I3 L3 (by rw [ey2, hx3]) (hinv.take hA (by omega) hE hns)
      · refine And.intro (fun _ => ?_) (fun c => ?_)
        · exact k145 best x2 _ _ I3 L3 hx2 (hinv.pass hA hE)
        · rw [zI_toInt (by omega) (by omega)] at c
          omega
    refine am_J.er [true, true, true, true, false, false] ?_
    refine am_goN vX12_worn 8 ?_
    refine And.intro ⟨by omega, by omega⟩ ?_
    rw [h1n, f1.1 _ _ rfl, hpo]
    refine And.intro (fun c => ?_) (fun _ => ?_)
    · have c : (zI 1 <<< (zI (rn.length : Int) &&& 31)).toInt ≤ x3.toInt := c
      rw [hsh, h3, zI_toInt (by omega) (by omega)] at c
      omega
    refine am_goN vX12_worn 2 ?_
    refine And.intro (fun c => ?_) (fun c => ?_)
    · -- some set explains
      rw [h2] at c
      obtain ⟨b, hb, hbk⟩ : ∃ b : Nat, best = b ∧ b < k := by
        rcases hinv.1 with ⟨z, -⟩ | ⟨b, z1, z2, -⟩
        · omega
        · exact ⟨b, z1, z2⟩
      subst hb
      have hpk : pop k ≤ 12 := pcn_le k 12
      have hpb : pop b ≤ 12 := pcn_le b 12
      refine am_goN vX12_worn 4 ?_
      refine fun x4 ex4 => ?_
      have hx4 : x4 = zI ((k ^^^ b : Nat) : Int) := by rw [ex4, hx3, hx2, zI_xorN (by omega) (by omega)]
      refine am_goN vX12_worn 2 ?_
      refine And.intro (fun c2 => ?_) (fun _ => ?_)
      · rw [h2] at c2
        omega
      refine am_goN vX12_worn 5 ?_
      refine s_bitsOf (M := k) (by omega) hx3 ?_
      refine s_bitsOf (M := b) (by omega) hx2 ?_
      refine And.intro (fun c2 => ?_) (fun c2 => ?_)
      · rw [zI_toInt (by omega) (by omega), zI_toInt (by omega) (by omega)] at c2
        exact k145 (b : Int) x2 _ _ I1 f1 hx2 (hinv.skip hA (by omega) (Or.inl (by omega)))
      rw [zI_toInt (by omega) (by omega), zI_toInt (by omega) (by omega)] at c2
      refine am_goN vX12_worn 5 ?_
      refine s_bitsOf (M := k) (by omega) hx3 ?_
      refine s_bitsOf (M := b) (by omega) hx2 ?_
      refine And.intro (fun c3 => ?_) (fun c3 => ?_)
      · rw [zI_toInt (by omega) (by omega), zI_toInt (by omega) (by omega)] at c3
        exact k92 _ _ (Or.inr ⟨b, rfl, by omega, fun z => absurd z (by omega)⟩)
      rw [zI_toInt (by omega) (by omega), zI_toInt (by omega) (by omega)] at c3
      have hlow := low_test (a := k) (b := b) (by omega) (by omega) (by omega)
      refine am_goN vX12_worn 7 ?_
      rw [hx4, hx3]
      refine And.intro (fun c4 => ?_) (fun c4 => ?_)
      · rw [← hx4, ← hx3]
        exact k92 _ _ (Or.inr ⟨b, rfl, by omega, fun _ => hlow.2 c4⟩)
      · rw [← hx4, ← hx3]
        refine am_goN vX12_worn 1 ?_
        exact k145 (b : Int) x2 _ _ I1 f1 hx2 (hinv.skip hA (by omega) (Or.inr ⟨by omega, hlow.1 c4⟩))
    · rw [h2] at c
      refine am_goN vX12_worn 3 ?_
      refine fun x4 ex4 => ?_
      refine am_goN vX12_worn 2 ?_
      refine And.intro (fun _ => ?_) (fun c2 => ?_)
      · exact k92 _ _ (Or.inl c)
      · rw [h2] at c2
        omega
abbrev mwornv : List Nat := 47 :: 48 :: 80 :: 175 :: mlessv
set_option maxRecDepth 100000 in
theorem s_mworn {Γ : AMG} {Q : QQ} {d : Nat} {x1 : Int32} {I : II} {Lg : LJ} {R : RR} {gc : Nat → Nat} {rn : Nat → RUN} {sz : Nat} {bs : Nat → Int} (hrn : RNSok rn) (hc : MRunsAt I rn) (hb : BSsok sz bs) (ht : MTapeAt I sz bs)
    (hn : ¬ (tkOk sz bs ∧ ∃ r : Nat, r < 4 ∧ x1 = zI r ∧ 0 < (rn r).length) → ∀ I' : II, FrI (V0 mlay0) I I' → I' 47 0 0 = zI 0 → I' 48 0 0 = zI 0 → Q (some (vI (zI (-1)))) I' Lg R (GM gc))
    (hy : ∀ r : Nat, r < 4 → x1 = zI r → 0 < (rn r).length → tkOk sz bs → ∀ I' : II, FrI (V0 mwornv) I I' → I' 47 0 0 = zI 0 → I' 48 0 0 = zI 0 → (∀ v, I' 135 0 v = zI 0) → Q (some (vI (zI (wornA (rn r) (sz / 2) (tkv bs))))) I' Lg R (GM gc)) :
    am_Sp Γ (d + 4) 0 0 mX12_worn [vR 12 0, vI x1] I Lg R (GM gc) Q := by
  refine am_runN vX12_worn 3 _ rfl rfl rfl rfl ?_
  refine fun y0 ey0 I0 e0 => ?_
  have f0 : FrI (V0 [47]) I I0 := by rw [e0]; exact FrI.rf.up rfl
  have th0 : I0 47 0 0 = zI 0 := by rw [e0, up3_s, ey0]
  refine am_goN vX12_worn 3 ?_
  refine s_takeTicks hb (ht.fr f0 rfl rfl) (fun hok I1 f1 t1 w1 wd1 => ?_) (fun hok I1 f1 t1 => ?_)
  · have F1 : FrI (V0 mlay0) I I1 := (f0.mono (fun v i q => V0_sub (by decide) q)).tr (f1.mono (fun v i q => V0_sub (by decide) q))
    have th1 : I1 47 0 0 = zI 0 := by rw [f1 _ _ rfl]; exact th0
    refine And.intro (fun c1 => ?_) (fun _ => ?_)
    · rw [zI_toInt (by omega) (by omega)] at c1
      omega
    refine am_goN vX12_worn 4 ?_
    refine s_isRun (fun w2 w3 w4 => ?_) (fun w2 => ?_)
    · refine And.intro (fun _ => ?_) (fun c1 => ?_)
      rotate_left
      · rw [zI_toInt (by omega) (by omega)] at c1
        omega
      have hx1 : x1 = zI (x1.toInt.toNat : Nat) := by rw [show ((x1.toInt.toNat : Nat) : Int) = x1.toInt by omega, zI_self]
      generalize hr9 : x1.toInt.toNat = r at hx1 w4
      have hr : r < 4 := by omega
      have hrok := hrn r hr
      have hl := hrok.1
      obtain ⟨hp, hg⟩ := hc.1 r hr
      rw [F1 _ _ rfl, hp, zI_toInt (by omega) (by omega)] at w4
      have hW : ∀ k, 0 ≤ tkv bs k ∧ tkv bs k ≤ 65535 := fun k => tkv_rng hb k
      refine am_goN vX12_worn 4 ?_
      refine fun x2 ex2 x3 ex3 => ?_
      refine mworn_sets (I := I1) (nW := sz / 2) (W := tkv bs) (ans := wornA (rn r) (sz / 2) (tkv bs)) hrok (by omega) hr ((hg (zI 0)).fr F1 (fun v hv => V0_outI (by decide) v hv 0)) (by rw [F1 _ _ rfl]; exact hp) (by have := hok.2.1; omega) w1 wd1 hW hx1 (wornA_best hrok (by omega) hW (fun k hk => hok.2.2 k (by omega))) (fun I2 f2 z2 => ?_) (2 ^ (rn r).length) 0 (-2) x2 x3 _ _ I1 (by omega) ex3 ex2 WInv.zero ⟨FrI.rf, fun v _ => by rw [F1 _ _ rfl]; exact hc.2 v⟩
      refine hy r hr hx1 (by omega) hok I2 ((F1.mono (fun v i q => V0_sub (by decide) q)).tr (f2.mono (fun v i q => V0_sub (by decide) q))) ?_ ?_ z2
      · rw [f2 _ _ rfl]; exact th1
      · rw [f2 _ _ rfl]; exact t1
    · refine And.intro (fun c1 => ?_) (fun _ => ?_)
      rotate_left
      · refine am_goN vX12_worn 3 ?_
        refine hn ?_ I1 F1 th1 t1
        rintro ⟨-, r, hr, hx, hl⟩
        have hxt : x1.toInt = r := by rw [hx, zI_toInt (by omega) (by omega)]
        rcases w2 with q | q | ⟨-, -, q⟩
        · omega
        · omega
        · rw [hxt, Int.toNat_natCast, F1 _ _ rfl, (hc.1 r hr).1, zI_toInt (by omega) (by have := (hrn r hr).1; omega)] at q
          omega
      · exact absurd rfl c1
  · refine And.intro (fun _ => ?_) (fun c1 => ?_)
    · refine am_goN vX12_worn 3 ?_
      exact hn (fun z => hok z.1) I1 ((f0.mono (fun v i q => V0_sub (by decide) q)).tr (f1.mono (fun v i q => V0_sub (by decide) q))) (by rw [f1 _ _ rfl]; exact th0) t1
    · rw [zI_toInt (by omega) (by omega)] at c1
      omega
