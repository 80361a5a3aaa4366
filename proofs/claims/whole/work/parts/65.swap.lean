/-! Plan.swap on each of the three rows. -/
def swp (f : Nat → Int32) (e : Nat) : Nat → Int32 := fun j => if j = e - 1 then f e else if j = e then f (e - 1) else f j
set_option maxRecDepth 100000 in
theorem s_swap_tick {Γ : AMG} {Q : QQ} {d p e : Nat} {x1 : Int32} {I : II} {Lg : LJ} {R : RR} {gc : Nat → Nat} (hx : x1 = zI e) (h0 : 0 < e) (h1 : e < 24)
    (h : ∀ I' : II, FrI (V1 [115] p) I I' → I' 115 p = swp (I 115 p) e → Q none I' Lg R (GM gc)) : am_Sp Γ d 0 0 mX8_swap [vR 49 p, vI x1] I Lg R (GM gc) Q := by
  have hxt : x1.toInt = e := by rw [hx, zI_toInt (by omega) (by omega)]
  have hx2 : (x1 - zI 1).toInt = ((e - 1 : Nat) : Int) := by rw [hx, zI_sub, zI_toInt (by omega) (by omega)]; omega
  refine am_runN vX8_swap 60 _ rfl rfl rfl rfl ?_
  refine And.intro (fun c => ?_) (fun c => ?_)
  · omega
  refine And.intro (fun c => ?_) (fun c => ?_)
  · rw [hxt, zI_toInt (by omega) (by omega)] at c
    omega
  refine And.intro ⟨by omega, by omega⟩ ?_
  refine fun x2 ex2 => ?_
  refine And.intro ⟨by omega, by omega⟩ ?_
  refine And.intro ⟨by omega, by omega⟩ ?_
  refine fun y1 ey1 I1 e1 => ?_
  refine And.intro ⟨by omega, by omega⟩ ?_
  refine fun y2 ey2 I2 e2 => ?_
  rw [hx2, Int.toNat_natCast] at ex2 e1
  rw [hxt, Int.toNat_natCast] at ey1 e2
  refine h I2 (by rw [e2, e1]; exact (FrI.rf.up (V1_in rfl)).up (V1_in rfl)) ?_
  funext j
  unfold swp
  rw [e2, e1]
  by_cases hj1 : j = e - 1
  · rw [if_pos hj1, up3_j _ (by omega), hj1, up3_s, ey1]
  · rw [if_neg hj1]
    by_cases hj : j = e
    · rw [if_pos hj, hj, up3_s, ey2, ex2]
    · rw [if_neg hj, up3_j _ hj, up3_j _ hj1]
set_option maxRecDepth 100000 in
theorem s_swap_machine {Γ : AMG} {Q : QQ} {d p e : Nat} {x1 : Int32} {I : II} {Lg : LJ} {R : RR} {gc : Nat → Nat} (hx : x1 = zI e) (h0 : 0 < e) (h1 : e < 24)
    (h : ∀ I' : II, FrI (V1 [116] p) I I' → I' 116 p = swp (I 116 p) e → Q none I' Lg R (GM gc)) : am_Sp Γ d 0 0 mX8_swap [vR 50 p, vI x1] I Lg R (GM gc) Q := by
  have hxt : x1.toInt = e := by rw [hx, zI_toInt (by omega) (by omega)]
  have hx2 : (x1 - zI 1).toInt = ((e - 1 : Nat) : Int) := by rw [hx, zI_sub, zI_toInt (by omega) (by omega)]; omega
  refine am_runN vX8_swap 60 _ rfl rfl rfl rfl ?_
  refine And.intro (fun c => ?_) (fun c => ?_)
  · omega
  refine And.intro (fun c => ?_) (fun c => ?_)
  · rw [hxt, zI_toInt (by omega) (by omega)] at c
    omega
  refine And.intro ⟨by omega, by omega⟩ ?_
  refine fun x2 ex2 => ?_
  refine And.intro ⟨by omega, by omega⟩ ?_
  refine And.intro ⟨by omega, by omega⟩ ?_
  refine fun y1 ey1 I1 e1 => ?_
  refine And.intro ⟨by omega, by omega⟩ ?_
  refine fun y2 ey2 I2 e2 => ?_
  rw [hx2, Int.toNat_natCast] at ex2 e1
  rw [hxt, Int.toNat_natCast] at ey1 e2
  refine h I2 (by rw [e2, e1]; exact (FrI.rf.up (V1_in rfl)).up (V1_in rfl)) ?_
  funext j
  unfold swp
  rw [e2, e1]
  by_cases hj1 : j = e - 1
  · rw [if_pos hj1, up3_j _ (by omega), hj1, up3_s, ey1]
  · rw [if_neg hj1]
    by_cases hj : j = e
    · rw [if_pos hj, hj, up3_s, ey2, ex2]
    · rw [if_neg hj, up3_j _ hj, up3_j _ hj1]
set_option maxRecDepth 100000 in
theorem s_swap_number {Γ : AMG} {Q : QQ} {d p e : Nat} {x1 : Int32} {I : II} {Lg : LJ} {R : RR} {gc : Nat → Nat} (hx : x1 = zI e) (h0 : 0 < e) (h1 : e < 24)
    (h : ∀ I' : II, FrI (V1 [117] p) I I' → I' 117 p = swp (I 117 p) e → Q none I' Lg R (GM gc)) : am_Sp Γ d 0 0 mX8_swap [vR 51 p, vI x1] I Lg R (GM gc) Q := by
  have hxt : x1.toInt = e := by rw [hx, zI_toInt (by omega) (by omega)]
  have hx2 : (x1 - zI 1).toInt = ((e - 1 : Nat) : Int) := by rw [hx, zI_sub, zI_toInt (by omega) (by omega)]; omega
  refine am_runN vX8_swap 60 _ rfl rfl rfl rfl ?_
  refine And.intro (fun c => ?_) (fun c => ?_)
  · omega
  refine And.intro (fun c => ?_) (fun c => ?_)
  · rw [hxt, zI_toInt (by omega) (by omega)] at c
    omega
  refine And.intro ⟨by omega, by omega⟩ ?_
  refine fun x2 ex2 => ?_
  refine And.intro ⟨by omega, by omega⟩ ?_
  refine And.intro ⟨by omega, by omega⟩ ?_
  refine fun y1 ey1 I1 e1 => ?_
  refine And.intro ⟨by omega, by omega⟩ ?_
  refine fun y2 ey2 I2 e2 => ?_
  rw [hx2, Int.toNat_natCast] at ex2 e1
  rw [hxt, Int.toNat_natCast] at ey1 e2
  refine h I2 (by rw [e2, e1]; exact (FrI.rf.up (V1_in rfl)).up (V1_in rfl)) ?_
  funext j
  unfold swp
  rw [e2, e1]
  by_cases hj1 : j = e - 1
  · rw [if_pos hj1, up3_j _ (by omega), hj1, up3_s, ey1]
  · rw [if_neg hj1]
    by_cases hj : j = e
    · rw [if_pos hj, hj, up3_s, ey2, ex2]
    · rw [if_neg hj, up3_j _ hj, up3_j _ hj1]
