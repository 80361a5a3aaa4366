/-! Numbers, frames, the state behind the constructors. -/
theorem zI_toInt {a : Int} (h1 : -2147483648 ≤ a) (h2 : a < 2147483648) : (zI a).toInt = a := Int32.toInt_ofInt_of_le (by omega) (by omega)
theorem zI_add (a b : Int) : zI a + zI b = zI (a + b) := (Int32.ofInt_add a b).symm
theorem zI_sub (a b : Int) : zI a - zI b = zI (a - b) := (Int32.ofInt_sub a b).symm
theorem zI_mul (a b : Int) : zI a * zI b = zI (a * b) := (Int32.ofInt_mul a b).symm
theorem zI_neg (a : Int) : -zI a = zI (-a) := (Int32.ofInt_neg a).symm
theorem zI_self (x : Int32) : zI x.toInt = x := Int32.ofInt_toInt x
theorem zI_rng (x : Int32) : -2147483648 ≤ x.toInt ∧ x.toInt < 2147483648 := ⟨Int32.le_toInt x, Int32.toInt_lt x⟩
theorem zI_ex (x : Int32) : ∃ a : Int, x = zI a ∧ -2147483648 ≤ a ∧ a < 2147483648 := ⟨x.toInt, (zI_self x).symm, zI_rng x⟩
theorem zI_inj {a b : Int} (h1 : -2147483648 ≤ a) (h2 : a < 2147483648) (h3 : -2147483648 ≤ b) (h4 : b < 2147483648) (h : zI a = zI b) : a = b := by
  have := congrArg Int32.toInt h
  rwa [zI_toInt h1 h2, zI_toInt h3 h4] at this
theorem zI_ne {a b : Int} (h1 : -2147483648 ≤ a) (h2 : a < 2147483648) (h3 : -2147483648 ≤ b) (h4 : b < 2147483648) (h : a ≠ b) : zI a ≠ zI b := fun q => h (zI_inj h1 h2 h3 h4 q)
theorem zI_of_toInt {x : Int32} {a : Int} (h : x.toInt = a) : x = zI a := by rw [← h, zI_self]
theorem zI_div {a b : Int} (h1 : -2147483648 < a) (h2 : a < 2147483648) (h3 : 0 < b) (h4 : b < 2147483648) : zI a / zI b = zI (a.tdiv b) := by
  refine zI_of_toInt ?_
  rw [Int32.toInt_div_of_ne_left _ _ (fun q => by have := congrArg Int32.toInt q; rw [zI_toInt (by omega) h2] at this; have e9 : Int32.minValue.toInt = -2147483648 := (by decide); omega), zI_toInt (by omega) h2, zI_toInt (by omega) h4]
theorem zI_divN {a b : Int} (h1 : 0 ≤ a) (h2 : a < 2147483648) (h3 : 0 < b) (h4 : b < 2147483648) : zI a / zI b = zI (a / b) := by
  rw [zI_div (by omega) h2 h3 h4, Int.tdiv_eq_ediv_of_nonneg h1]
theorem zI_remN {a b : Int} (h1 : 0 ≤ a) (h2 : a < 2147483648) (h3 : 0 < b) (h4 : b < 2147483648) : zI a - zI a / zI b * zI b = zI (a % b) := by
  rw [zI_divN h1 h2 h3 h4, zI_mul, zI_sub, Int.emod_def, Int.mul_comm]
theorem am_max_z {a b : Int} (h1 : -2147483648 ≤ a) (h2 : a < 2147483648) (h3 : -2147483648 ≤ b) (h4 : b < 2147483648) : am_max (zI a) (zI b) = zI (max a b) := by
  unfold am_max
  split
  · next h => rw [Int32.lt_iff_toInt_lt, zI_toInt (by omega) (by omega), zI_toInt (by omega) (by omega)] at h; congr 1; omega
  · next h => rw [Int32.lt_iff_toInt_lt, zI_toInt (by omega) (by omega), zI_toInt (by omega) (by omega)] at h; congr 1; omega
theorem am_min_z {a b : Int} (h1 : -2147483648 ≤ a) (h2 : a < 2147483648) (h3 : -2147483648 ≤ b) (h4 : b < 2147483648) : am_min (zI a) (zI b) = zI (min a b) := by
  unfold am_min
  split
  · next h => rw [Int32.lt_iff_toInt_lt, zI_toInt (by omega) (by omega), zI_toInt (by omega) (by omega)] at h; congr 1; omega
  · next h => rw [Int32.lt_iff_toInt_lt, zI_toInt (by omega) (by omega), zI_toInt (by omega) (by omega)] at h; congr 1; omega
theorem am_abs_z {a : Int} (h1 : -2147483648 < a) (h2 : a < 2147483648) : am_abs (zI a) = zI (a.natAbs : Int) := by
  unfold am_abs
  rw [show (0 : Int32) = zI 0 from rfl, zI_sub]
  split
  · next h => rw [Int32.le_iff_toInt_le, zI_toInt (by omega) (by omega), zI_toInt (by omega) (by omega)] at h; congr 1; omega
  · next h => rw [Int32.le_iff_toInt_le, zI_toInt (by omega) (by omega), zI_toInt (by omega) (by omega)] at h; congr 1; omega
theorem up3_a {α : Type} (f : Nat → Nat → Nat → α) (v i j : Nat) (x : α) (v' i' j' : Nat) : up3 f v i j x v' i' j' = if v' = v ∧ i' = i ∧ j' = j then x else f v' i' j' := rfl
theorem up3_s {α : Type} (f : Nat → Nat → Nat → α) (v i j : Nat) (x : α) : up3 f v i j x v i j = x := by simp [up3]
theorem up3_v {α : Type} (f : Nat → Nat → Nat → α) {v i j : Nat} {x : α} {v' : Nat} (h : v' ≠ v) : up3 f v i j x v' = f v' := by
  funext i' j'
  simp [up3, h]
theorem up3_i {α : Type} (f : Nat → Nat → Nat → α) {v i j : Nat} {x : α} {v' i' : Nat} (h : i' ≠ i) : up3 f v i j x v' i' = f v' i' := by
  funext j'
  simp [up3, h]
theorem up3_j {α : Type} (f : Nat → Nat → Nat → α) {v i j : Nat} {x : α} {v' i' j' : Nat} (h : j' ≠ j) : up3 f v i j x v' i' j' = f v' i' j' := by
  simp [up3, h]
/-- nothing but what P tells has changed -/
def FrI (P : Nat → Nat → Bool) (I I' : II) : Prop := ∀ v i, P v i = false → I' v i = I v i
theorem FrI.rf {P : Nat → Nat → Bool} {I : II} : FrI P I I := fun _ _ _ => rfl
theorem FrI.up {P : Nat → Nat → Bool} {I I' : II} (h : FrI P I I') {v i j : Nat} {x : Int32} (hP : P v i = true) : FrI P I (up3 I' v i j x) := by
  intro v' i' hq
  rw [← h v' i' hq]
  by_cases e : v' = v
  · subst e
    have : i' ≠ i := fun q => by subst q; rw [hP] at hq; cases hq
    exact up3_i _ this
  · rw [up3_v _ e]
theorem FrI.tr {P : Nat → Nat → Bool} {I I' I2 : II} (h : FrI P I I') (h2 : FrI P I' I2) : FrI P I I2 := fun v i hq => (h2 v i hq).trans (h v i hq)
theorem FrI.mono {P P2 : Nat → Nat → Bool} {I I' : II} (h : FrI P I I') (hp : ∀ v i, P2 v i = false → P v i = false) : FrI P2 I I' := fun v i hq => h v i (hp v i hq)
/-- the variables of a list, of single things -/
def V0 (l : List Nat) : Nat → Nat → Bool := fun v _ => l.elem v
/-- the variables of a list, of the thing p -/
def V1 (l : List Nat) (p : Nat) : Nat → Nat → Bool := fun v i => l.elem v && i == p
/-- behind the constructors -/
def am_iniM : Nat → Nat → Nat → Bool := fun c i _ => cond (Nat.beq c 1) false (cond (Nat.beq c 1000) (!(Nat.beq i 1)) true)
abbrev GM (gc : Nat → Nat) : GG := (am_iniM, gc)
def am_cntT : List (List Nat) := [[27, 0, 1, 1, 2, 1, 1, 4, 10, 1, 1, 1, 1]]
def bt (w : Int32) (s : Int) : Int32 := (w.toUInt32 >>> ((zI s).toUInt32 &&& Int32.toUInt32 31)).toInt32 &&& zI 255
theorem bt_rng (w : Int32) (s : Int) : 0 ≤ (bt w s).toInt ∧ (bt w s).toInt ≤ 255 := by
  obtain ⟨j, hj, e⟩ := pk_andE (w.toUInt32 >>> ((zI s).toUInt32 &&& Int32.toUInt32 31)).toInt32 (m := zI 255) 8 (by decide +kernel)
  unfold bt
  rw [e, nI_toInt (by omega)]
  omega
