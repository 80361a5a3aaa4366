/-! The class's own methods. -/
def VR (r : Nat) : Nat → Nat → Bool := fun v i => V1 [32, 113, 114] r v i || V0 [39] v i
set_option maxRecDepth 100000 in
theorem s_run {Γ : AMG} {Q : QQ} {d : Nat} {x1 : Int32} {I : II} {Lg : LJ} {R : RR} {gc : Nat → Nat} {sz : Nat} {bs : Nat → Int} {bd : List BD} (hb : BSsok sz bs) (ht : TapeAt I sz bs) (hbd : BDsok bd) (hst : StockAt I R bd)
    (hy : ∀ r : Nat, r < 4 → x1 = zI r → runOk sz bs bd.length → ∀ (I' : II) (R' : RR), FrI (VR r) I I' → FrR r R R' → I' 39 0 0 = zI 0 → PathAt I' R' r (rnOf bd bs (sz / 3)) → Q (some (vI (zI (sz / 3 : Nat)))) I' Lg R' (GM gc))
    (hn : ((x1.toInt < 0 ∨ 4 ≤ x1.toInt) ∨ ¬ runOk sz bs bd.length) → Q (some (vI (zI (-1)))) (up3 I 39 0 0 (zI 0)) Lg R (GM gc)) :
    am_Sp Γ (d + 2) 0 0 mX11_run [vR 11 0, vI x1] I Lg R (GM gc) Q := by
  refine am_run vX11_run 60 _ rfl rfl rfl rfl ?_
  refine s_within (fun j1 j2 => ?_) (fun j1 => ?_)
  · rw [zI_toInt (by omega) (by omega)] at j1 j2
    have hx1 : x1 = zI x1.toInt.toNat := by rw [show ((x1.toInt.toNat : Nat) : Int) = x1.toInt by omega, zI_self]
    refine And.intro (fun c => ?_) (fun c => ?_)
    · rw [zI_toInt (by omega) (by omega)] at c
      omega
    refine s_isTold hb ht hst.1 hbd.1 (fun hok => ?_) (fun hno => ?_)
    · refine And.intro (fun c => ?_) (fun c => ?_)
      · rw [zI_toInt (by omega) (by omega)] at c
        omega
      refine And.intro ⟨by omega, by omega⟩ ?_
      refine s_build hb ht hbd hst hok (fun I' R' f' r' p' => ?_)
      have hps : I' 32 x1.toInt.toNat 0 = zI (sz / 3 : Nat) := by rw [p'.1, rnOf_len]
      refine s_clear ?_
      rw [hps]
      have ff : FrI (V0 [39]) I' (up3 I' 39 0 0 (zI 0)) := FrI.rf.up rfl
      refine hy _ (by omega) hx1 hok _ R' ?_ r' (by rw [up3_s]) (p'.fr ff (fun v hv _ => V0_out (l := [39]) (vs := rvars) (by decide) v hv))
      refine (f'.mono (fun v i h => ?_)).tr (ff.mono (fun v i h => ?_))
      · unfold VR at h; exact (Bool.or_eq_false_iff.mp h).1
      · unfold VR at h; exact (Bool.or_eq_false_iff.mp h).2
    · refine And.intro (fun c => ?_) (fun c => ?_)
      · exact s_clear (hn (Or.inr hno))
      · rw [zI_toInt (by omega) (by omega)] at c
        omega
  · rw [zI_toInt (by omega) (by omega), zI_toInt (by omega) (by omega)] at j1
    refine And.intro (fun c => ?_) (fun c => ?_)
    · exact s_clear (hn (Or.inl (by omega)))
    · rw [zI_toInt (by omega) (by omega)] at c
      omega
/-- the men -/
def CMenAt (I : II) (mn : List Int) : Prop := I 16 0 0 = zI mn.length ∧ ∀ (k : Nat) (x : Int), mn[k]? = some x → I 90 0 k = zI x
def MMenAt (I : II) (mn : List Int) : Prop := I 60 0 0 = zI mn.length ∧ ∀ (k : Nat) (x : Int), mn[k]? = some x → I 146 0 k = zI x
def MNsok (mn : List Int) : Prop := mn.length ≤ 4 ∧ ∀ (k : Nat) (x : Int), mn[k]? = some x → 0 ≤ x ∧ x ≤ 99
theorem row_app {f f' : Nat → Int32} {l : List Int} {x : Int} (h : ∀ (k : Nat) (y : Int), l[k]? = some y → f k = zI y) (h2 : ∀ k, f' k = if k = l.length then zI x else f k) (k : Nat) (y : Int) (hk : (l ++ [x])[k]? = some y) : f' k = zI y := by
  rw [h2]
  by_cases hkl : k = l.length
  · subst hkl
    rw [List.getElem?_append_right (Nat.le_refl _), Nat.sub_self] at hk
    cases hk
    rw [if_pos rfl]
  · rw [if_neg hkl]
    have hlt : k < l.length := by
      have := (List.getElem?_eq_some_iff.mp hk).1
      rw [List.length_append] at this
      simp at this
      omega
    rw [List.getElem?_append_left hlt] at hk
    exact h k y hk
set_option maxRecDepth 100000 in
theorem s_man {Γ : AMG} {Q : QQ} {d : Nat} {x1 : Int32} {I : II} {Lg : LJ} {R : RR} {gc : Nat → Nat} {mn : List Int} (hmn : MNsok mn) (hc : CMenAt I mn)
    (hn : ¬ (0 ≤ x1.toInt ∧ x1.toInt ≤ 99 ∧ mn.length < 4) → Q (some (vI (zI (-1)))) I Lg R (GM gc))
    (hy : 0 ≤ x1.toInt → x1.toInt ≤ 99 → mn.length < 4 → ∀ I' : II, FrI (V0 [16, 90]) I I' → CMenAt I' (mn ++ [x1.toInt]) → Q (some (vI (zI mn.length))) I' Lg R (GM gc)) :
    am_Sp Γ (d + 1) 0 0 mX11_man [vR 11 0, vI x1] I Lg R (GM gc) Q := by
  have hl := hmn.1
  have hst : (I 16 0 0).toInt = mn.length := by rw [hc.1, zI_toInt (by omega) (by omega)]
  refine am_run vX11_man 60 _ rfl rfl rfl rfl ?_
  refine s_within (fun j1 j2 => ?_) (fun j1 => ?_)
  · rw [zI_toInt (by omega) (by omega)] at j1 j2
    refine And.intro (fun c => ?_) (fun c => ?_)
    · rw [zI_toInt (by omega) (by omega)] at c
      omega
    refine am_runN vX3_add 60 _ rfl rfl rfl rfl ?_
    refine And.intro (fun c => ?_) (fun c => ?_)
    · omega
    refine And.intro (fun c => ?_) (fun c => ?_)
    · rw [hst, zI_toInt (by omega) (by omega)] at c
      refine And.intro ⟨by omega, by omega⟩ ?_
      refine fun y1 ey1 I1 e1 y2 ey2 I2 e2 => ?_
      rw [hst, Int.toNat_natCast] at e1
      have hsz : I2 16 0 0 = zI (mn.length + 1 : Nat) := by rw [e2, up3_s, ey2, e1, up3_v _ (by decide), hc.1, zI_add]; congr 1
      have := hy j1 j2 (by omega) I2 (by rw [e2, e1]; exact (FrI.rf.up rfl).up rfl) ⟨by rw [hsz, List.length_append]; rfl, row_app hc.2 (fun k => by rw [e2, up3_v _ (by decide), e1, up3_a, ey1, zI_self]; simp)⟩
      rw [show zI (mn.length : Int) = I2 16 0 0 - zI 1 by rw [hsz, zI_sub]; congr 1; omega] at this
      exact this
    · rw [hst, zI_toInt (by omega) (by omega)] at c
      exact hn (fun q => by omega)
  · rw [zI_toInt (by omega) (by omega), zI_toInt (by omega) (by omega)] at j1
    refine And.intro (fun c => ?_) (fun c => ?_)
    · exact hn (fun q => by omega)
    · rw [zI_toInt (by omega) (by omega)] at c
      omega
set_option maxRecDepth 100000 in
theorem s_mman {Γ : AMG} {Q : QQ} {d : Nat} {x1 : Int32} {I : II} {Lg : LJ} {R : RR} {gc : Nat → Nat} {mn : List Int} (hmn : MNsok mn) (hc : MMenAt I mn)
    (hn : ¬ (0 ≤ x1.toInt ∧ x1.toInt ≤ 99 ∧ mn.length < 4) → Q (some (vI (zI (-1)))) (up3 I 47 0 0 (zI 0)) Lg R (GM gc))
    (hy : 0 ≤ x1.toInt → x1.toInt ≤ 99 → mn.length < 4 → ∀ I' : II, FrI (V0 [47, 60, 146]) I I' → I' 47 0 0 = zI 0 → MMenAt I' (mn ++ [x1.toInt]) → Q (some (vI (zI mn.length))) I' Lg R (GM gc)) :
    am_Sp Γ (d + 1) 0 0 mX12_man [vR 12 0, vI x1] I Lg R (GM gc) Q := by
  have hl := hmn.1
  have hst : (I 60 0 0).toInt = mn.length := by rw [hc.1, zI_toInt (by omega) (by omega)]
  refine am_runN vX12_man 60 _ rfl rfl rfl rfl ?_
  refine fun y0 ey0 I0 e0 => ?_
  have e0' : I0 = up3 I 47 0 0 (zI 0) := by rw [e0, ey0]
  have hm0 : I0 60 0 0 = I 60 0 0 := by rw [e0, up3_v _ (by decide)]
  refine And.intro (fun c => ?_) (fun c => ?_)
  · rw [hm0, hst, zI_toInt (by omega) (by omega)] at c
    rw [e0']
    exact hn (fun q => by omega)
  rw [hm0, hst, zI_toInt (by omega) (by omega)] at c
  refine s_isIn (fun j1 j2 => ?_) (fun j1 => ?_)
  · rw [zI_toInt (by omega) (by omega)] at j1 j2
    refine And.intro (fun c2 => ?_) (fun c2 => ?_)
    · refine And.intro ⟨by rw [hm0]; omega, by rw [hm0]; omega⟩ ?_
      refine fun y1 ey1 I1 e1 y2 ey2 I2 e2 => ?_
      rw [hm0, hst, Int.toNat_natCast] at e1
      have hsz : I2 60 0 0 = zI (mn.length + 1 : Nat) := by rw [e2, up3_s, ey2, e1, up3_v _ (by decide), hm0, hc.1, zI_add]; congr 1
      have := hy j1 j2 (by omega) I2 (by rw [e2, e1, e0]; exact ((FrI.rf.up rfl).up rfl).up rfl) (by rw [e2, up3_v _ (by decide), e1, up3_v _ (by decide), e0', up3_s]) ⟨by rw [hsz, List.length_append]; rfl, row_app hc.2 (fun k => by rw [e2, up3_v _ (by decide), e1, up3_a, ey1, zI_self, e0, up3_v _ (by decide)]; simp)⟩
      rw [show zI (mn.length : Int) = I2 60 0 0 - zI 1 by rw [hsz, zI_sub]; congr 1; omega] at this
      exact this
    · rw [zI_toInt (by omega) (by omega)] at c2
      omega
  · rw [zI_toInt (by omega) (by omega), zI_toInt (by omega) (by omega)] at j1
    refine And.intro (fun c2 => ?_) (fun c2 => ?_)
    · rw [zI_toInt (by omega) (by omega)] at c2
      omega
    · rw [e0']
      exact hn (fun q => by omega)
