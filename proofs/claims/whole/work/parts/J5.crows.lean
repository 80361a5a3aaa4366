/-! made in the class: rows of numbers; relax, nearest. -/
def RA (I : II) (v n : Nat) (f : Nat → Int) : Prop := ∀ j, j < n → I v 0 j = zI (f j)
theorem RA.fr {I I' : II} {v n : Nat} {f : Nat → Int} {P : Nat → Nat → Bool} (h : RA I v n f) (hf : FrI P I I') (hP : P v 0 = false) : RA I' v n f := fun j hj => by rw [hf _ _ hP]; exact h j hj
theorem RA.congr {I : II} {v n : Nat} {f g : Nat → Int} (h : RA I v n f) (he : ∀ j, j < n → f j = g j) : RA I v n g := fun j hj => by rw [← he j hj]; exact h j hj
theorem RA.up {I I' : II} {v n k : Nat} {f : Nat → Int} {x : Int32} {z : Int} (h : RA I v n f) (he : I' = up3 I v 0 k x) (hx : x = zI z) : RA I' v n (fun j => if j = k then z else f j) := fun j hj => by
  show I' v 0 j = zI (if j = k then z else f j)
  rw [he]
  by_cases e : j = k
  · subst e
    rw [if_pos rfl, up3_s]
    exact hx
  · rw [if_neg e, up3_j _ e]
    exact h j hj
/-- a row that a loop changes place by place -/
def RJ (f g : Nat → Int) (j : Nat) : Nat → Int := fun i => if i < j then g i else f i
theorem RJ.lt {f g : Nat → Int} {j i : Nat} (h : i < j) : RJ f g j i = g i := if_pos h
theorem RJ.ge {f g : Nat → Int} {j i : Nat} (h : j ≤ i) : RJ f g j i = f i := if_neg (by omega)
theorem RA.j0 {I : II} {v n : Nat} {f g : Nat → Int} (h : RA I v n f) : RA I v n (RJ f g 0) := h.congr (fun j _ => (RJ.ge (Nat.zero_le _)).symm)
theorem RA.jn {I : II} {v n : Nat} {f g : Nat → Int} (h : RA I v n (RJ f g n)) : RA I v n g := h.congr (fun j hj => RJ.lt hj)
theorem RA.stay {I : II} {v n j : Nat} {f g : Nat → Int} (h : RA I v n (RJ f g j)) (e : g j = f j) : RA I v n (RJ f g (j + 1)) := h.congr (fun i hi => by
  by_cases h1 : i < j
  · rw [RJ.lt h1, RJ.lt (by omega)]
  · by_cases h2 : i = j
    · rw [h2, RJ.ge (Nat.le_refl _), RJ.lt (by omega), e]
    · rw [RJ.ge (by omega), RJ.ge (by omega)])
theorem RA.step {I I' : II} {v n j : Nat} {f g : Nat → Int} {x : Int32} (h : RA I v n (RJ f g j)) (he : I' = up3 I v 0 j x) (hx : x = zI (g j)) : RA I' v n (RJ f g (j + 1)) := (h.up he hx).congr (fun i hi => by
  by_cases h2 : i = j
  · rw [if_pos h2, h2, RJ.lt (by omega)]
  · rw [if_neg h2]
    by_cases h1 : i < j
    · rw [RJ.lt h1, RJ.lt (by omega)]
    · rw [RJ.ge (by omega), RJ.ge (by omega)])
def CostAt (I : II) (n : Nat) (c : Nat → Nat → Int) : Prop := ∀ r j, r < n → j < n → I 177 r j = zI (c r j)
theorem CostAt.fr {I I' : II} {n : Nat} {c : Nat → Nat → Int} {P : Nat → Nat → Bool} (h : CostAt I n c) (hf : FrI P I I') (hP : ∀ i, P 177 i = false) : CostAt I' n c := fun r j hr hj => by rw [hf _ _ (hP r)]; exact h r j hr hj
/-- numbers that stay small -/
def smallF (n : Nat) (f : Nat → Int) : Prop := ∀ j, j < n → -500000000 ≤ f j ∧ f j ≤ 500000000
def lft (c : Nat → Nat → Int) (p q : Nat → Int) (r j : Nat) : Int := c r j - p r - q j
def rlxS (c : Nat → Nat → Int) (p q sn sl : Nat → Int) (r : Nat) : Nat → Int := fun j => if sn j = 0 ∧ lft c p q r j < sl j then lft c p q r j else sl j
def rlxF (c : Nat → Nat → Int) (p q sn sl fr : Nat → Int) (r : Nat) (col : Int) : Nat → Int := fun j => if sn j = 0 ∧ lft c p q r j < sl j then col else fr j
section CROW
variable {Γ : AMG} {Q : QQ} {d n : Nat} {I : II} {Lg : LJ} {R : RR} {gc : Nat → Nat} {c : Nat → Nat → Int} {p q rof cof sl fr sn : Nat → Int}
set_option maxRecDepth 100000 in
theorem s_relax {row : Nat} {col : Int} {x1 x2 : Int32} (hn : n ≤ 28) (hsd : I 18 0 0 = zI n) (hr : row < n) (hx1 : x1 = zI row) (hx2 : x2 = zI col) (hc : CostAt I n c) (hcb : ∀ r j, -9999 ≤ c r j ∧ c r j ≤ 1000000) (hp : RA I 92 n p) (hpb : smallF n p) (hq : RA I 93 n q) (hqb : smallF n q) (hs : RA I 98 n sn) (hsb : ∀ j, sn j = 0 ∨ sn j = 1) (hsl : RA I 96 n sl) (hslb : smallF n sl) (hf : RA I 97 n fr)
    (h : ∀ I' : II, FrI (V0 [96, 97]) I I' → RA I' 96 n (rlxS c p q sn sl row) → RA I' 97 n (rlxF c p q sn sl fr row col) → Q none I' Lg R (GM gc)) :
    am_Sp Γ (d + 1) 0 0 mX3_relax [vR 3 0, vI x1, vI x2] I Lg R (GM gc) Q := by
  have hrt : x1.toInt = row := by rw [hx1, zI_toInt (by omega) (by omega)]
  refine am_run vX3_relax 2 _ rfl rfl rfl rfl ?_
  have loop : ∀ (m j : Nat) (x3 : Int32) (l4 : Option AV) (I1 : II), j + m = n → x3 = zI j → FrI (V0 [96, 97]) I I1 → RA I1 96 n (RJ sl (rlxS c p q sn sl row) j) → RA I1 97 n (RJ fr (rlxF c p q sn sl fr row col) j) →
      am_J Γ mX3_relax Q (d + 1) 0 0 2 [some (vR 3 0), some (vI x1), some (vI x2), some (vI x3), l4] [] I1 Lg R (GM gc) := by
    intro m
    induction m with
    | zero =>
      intro j x3 l4 I1 hj hx3 f1 s1 c1
      have ej : j = n := by omega
      subst ej
      have ht : x3.toInt = j := by rw [hx3, zI_toInt (by omega) (by omega)]
      refine am_go vX3_relax 20 ?_
      refine And.intro (fun _ => ?_) (fun z => ?_)
      · exact h I1 f1 s1.jn c1.jn
      · rw [ht, f1 18 _ rfl, hsd, zI_toInt (by omega) (by omega)] at z
        omega
    | succ m ih =>
      intro j x3 l4 I1 hj hx3 f1 s1 c1
      have ht : x3.toInt = j := by rw [hx3, zI_toInt (by omega) (by omega)]
      have hjn : j < n := by omega
      have b1 := hpb row hr
      have b2 := hqb j hjn
      have b3 := hslb j hjn
      have b4 := hcb row j
      have v1 : I1 177 row j = zI (c row j) := by rw [f1 177 _ rfl]; exact hc row j hr hjn
      have v2 : I1 92 0 row = zI (p row) := by rw [f1 92 _ rfl]; exact hp row hr
      have v3 : I1 93 0 j = zI (q j) := by rw [f1 93 _ rfl]; exact hq j hjn
      have v4 : I1 98 0 j = zI (sn j) := by rw [f1 98 _ rfl]; exact hs j hjn
      have v5 : I1 96 0 j = zI (sl j) := by rw [s1 j hjn, RJ.ge (Nat.le_refl _)]
      have next : ∀ (x4 : Int32) (I2 : II), FrI (V0 [96, 97]) I I2 → RA I2 96 n (RJ sl (rlxS c p q sn sl row) (j + 1)) → RA I2 97 n (RJ fr (rlxF c p q sn sl fr row col) (j + 1)) → am_J Γ mX3_relax Q (d + 1) 0 0 69 [some (vR 3 0), some (vI x1), some (vI x2), some (vI x3), some (vI x4)] [] I2 Lg R (GM gc) := by
        intro x4 I2 f2 s2 c2
        refine am_goN vX3_relax 20 ?_
        refine fun y ey => ?_
        exact ih (j + 1) y _ I2 (by omega) (by rw [ey, hx3, zI_add]; congr 1) f2 s2 c2
      refine am_goN vX3_relax 4 ?_
      refine And.intro (fun z => ?_) (fun _ => ?_)
      · rw [ht, f1 18 _ rfl, hsd, zI_toInt (by omega) (by omega)] at z
        omega
      refine am_goN vX3_relax 22 ?_
      refine And.intro ⟨by omega, by omega⟩ ?_
      refine And.intro ⟨by omega, by omega⟩ ?_
      refine And.intro ⟨by omega, by omega⟩ ?_
      refine And.intro ⟨by omega, by omega⟩ ?_
      refine fun x4 e4 => ?_
      have e4 : x4 = zI (lft c p q row j) := by
        rw [e4, hrt, ht, Int.toNat_natCast, Int.toNat_natCast, v1, v2, v3, zI_sub, zI_sub]
        rfl
      have b5 : -1100000000 ≤ lft c p q row j ∧ lft c p q row j ≤ 1100000000 := by unfold lft; omega
      refine And.intro ⟨by omega, by omega⟩ ?_
      refine And.intro (fun z => ?_) (fun z => ?_)
      · rw [ht, Int.toNat_natCast, v4, zI_toInt (by have := hsb j; omega) (by have := hsb j; omega)] at z
        exact next x4 I1 f1 (s1.stay (if_neg (fun w => z w.1))) (c1.stay (if_neg (fun w => z w.1)))
      · rw [ht, Int.toNat_natCast, v4, zI_toInt (by have := hsb j; omega) (by have := hsb j; omega)] at z
        refine am_goN vX3_relax 6 ?_
        refine And.intro ⟨by omega, by omega⟩ ?_
        refine And.intro (fun z2 => ?_) (fun z2 => ?_)
        · rw [e4, ht, Int.toNat_natCast, v5, zI_toInt (by omega) (by omega), zI_toInt (by omega) (by omega)] at z2
          exact next x4 I1 f1 (s1.stay (if_neg (fun w => by omega))) (c1.stay (if_neg (fun w => by omega)))
        · rw [e4, ht, Int.toNat_natCast, v5, zI_toInt (by omega) (by omega), zI_toInt (by omega) (by omega)] at z2
          refine am_goN vX3_relax 10 ?_
          refine And.intro ⟨by omega, by omega⟩ ?_
          refine fun y2 ey2 I2 e2 => ?_
          refine And.intro ⟨by omega, by omega⟩ ?_
          refine fun y3 ey3 I3 e3 => ?_
          rw [ht, Int.toNat_natCast] at e2 e3
          have hs2 := s1.step e2 (by rw [ey2, e4]; unfold rlxS; rw [if_pos ⟨z, by omega⟩])
          have hc3 := (c1.fr (I' := I2) (P := V0 [96]) (by rw [e2]; exact FrI.rf.up rfl) rfl).step e3 (by rw [ey3, hx2]; unfold rlxF; rw [if_pos ⟨z, by omega⟩])
          exact next x4 I3 (by rw [e3, e2]; exact (f1.up rfl).up rfl) (hs2.fr (P := V0 [97]) (by rw [e3]; exact FrI.rf.up rfl) rfl) hc3
  exact loop n 0 _ _ I (by omega) rfl FrI.rf hsl.j0 hf.j0
end CROW
