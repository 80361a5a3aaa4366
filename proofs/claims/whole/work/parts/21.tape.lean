/-! The tape of the class: put, take, cut, clear, byteAt, rewind. -/
/-- four bytes come -/
def tk4 (f : Nat → Int32) (s : Nat) (w : Int32) : Nat → Int32 := fun j => if j = s then bt w 24 else if j = s + 1 then bt w 16 else if j = s + 2 then bt w 8 else if j = s + 3 then bt w 0 else f j
theorem put_it {Γ : AMG} {Q : QQ} {d : Nat} {n x2 : Int32} {I : II} {Lg : LJ} {R : RR} {gc : Nat → Nat} {s sz : Int} (hx : x2 = zI s) (hsz : I 39 0 0 = zI sz) (h0 : 0 ≤ sz) (h1 : sz < 640) (hs0 : 0 ≤ s) (hs1 : s ≤ 24)
    (h : ∀ (x2 : Int32) (I' : II), x2 = zI (s - 8) → I' 39 0 0 = zI (sz + 1) → FrI (V0 [123, 39]) I I' → (I' 123 0 = fun j => if j = sz.toNat then bt n s else I 123 0 j) → am_J Γ mX10_put Q d 0 0 3 [some (vR 10 0), some (vI n), some (vI x2)] [] I' Lg R (GM gc)) :
    am_J Γ mX10_put Q d 0 0 3 [some (vR 10 0), some (vI n), some (vI x2)] [] I Lg R (GM gc) := by
  subst hx
  refine am_go vX10_put 40 ?_
  refine And.intro (fun c => ?_) (fun _ => ?_)
  · exact absurd c (by rw [zI_toInt (by omega) (by omega)]; omega)
  refine And.intro (fun c => ?_) (fun _ => ?_)
  · exact absurd c (by rw [hsz, zI_toInt (by omega) (by omega)]; omega)
  refine And.intro (fun c => ?_) (fun _ => ?_)
  · exact absurd c (by rw [hsz, zI_toInt (by omega) (by omega), zI_toInt (by omega) (by omega)]; omega)
  refine And.intro (by rw [hsz, zI_toInt (by omega) (by omega)]; omega) ?_
  refine h _ _ ?_ ?_ ((FrI.rf.up rfl).up rfl) ?_
  · rw [zI_add]; congr 1
  · simp only [up3_s]
    rw [up3_v _ (by decide), hsz, zI_add]
  · rw [up3_v _ (by decide), hsz, zI_toInt (by omega) (by omega)]
    funext j
    simp only [up3_a, true_and]
    rfl
set_option maxRecDepth 100000 in
theorem s_put {Γ : AMG} {Q : QQ} {d : Nat} {n : Int32} {I : II} {Lg : LJ} {R : RR} {gc : Nat → Nat} {sz : Int} (hsz : I 39 0 0 = zI sz) (h0 : 0 ≤ sz) (h1 : sz ≤ 636)
    (h : ∀ (I' : II), I' 39 0 0 = zI (sz + 4) → FrI (V0 [123, 39]) I I' → I' 123 0 = tk4 (I 123 0) sz.toNat n → Q none I' Lg R (GM gc)) :
    am_Sp Γ d 0 0 mX10_put [vR 10 0, vI n] I Lg R (GM gc) Q := by
  refine am_run vX10_put 10 _ rfl rfl rfl rfl ?_
  refine put_it (s := 24) rfl hsz h0 (by omega) (by omega) (by omega) (fun x2 I1 e1 z1 f1 b1 => ?_)
  refine put_it (s := 16) e1 z1 (by omega) (by omega) (by omega) (by omega) (fun x2 I2 e2 z2 f2 b2 => ?_)
  refine put_it (s := 8) e2 z2 (by omega) (by omega) (by omega) (by omega) (fun x2 I3 e3 z3 f3 b3 => ?_)
  refine put_it (s := 0) e3 z3 (by omega) (by omega) (by omega) (by omega) (fun x2 I4 e4 z4 f4 b4 => ?_)
  subst e4
  refine am_go vX10_put 10 ?_
  refine And.intro (fun c => ?_) (fun c => ?_)
  · refine h I4 (by rw [z4]; congr 1; omega) (((f1.tr f2).tr f3).tr f4) ?_
    rw [b4, b3, b2, b1]
    funext j
    unfold tk4
    have e1 : (sz + 1 + 1 + 1).toNat = sz.toNat + 3 := by omega
    have e2 : (sz + 1 + 1).toNat = sz.toNat + 2 := by omega
    have e3 : (sz + 1).toNat = sz.toNat + 1 := by omega
    rw [e1, e2, e3]
    by_cases q0 : j = sz.toNat
    · simp [q0]
    · by_cases q1 : j = sz.toNat + 1
      · simp [q1]
      · by_cases q2 : j = sz.toNat + 2
        · simp [q2]
        · simp [q0, q1, q2]
  · exact absurd c (by rw [zI_toInt (by omega) (by omega)]; omega)
set_option maxRecDepth 100000 in
theorem s_clear {Γ : AMG} {Q : QQ} {d : Nat} {I : II} {Lg : LJ} {R : RR} {gc : Nat → Nat} (h : Q none (up3 I 39 0 0 (zI 0)) Lg R (GM gc)) : am_Sp Γ d 0 0 mX10_clear [vR 10 0] I Lg R (GM gc) Q := by
  refine am_run vX10_clear 10 _ rfl rfl rfl rfl ?_
  exact h
set_option maxRecDepth 100000 in
theorem s_take {Γ : AMG} {Q : QQ} {d : Nat} {a b c e g : Int32} {I : II} {Lg : LJ} {R : RR} {gc : Nat → Nat} {sz : Int} (hsz : I 39 0 0 = zI sz) (h0 : 0 ≤ sz) (h1 : sz ≤ 640)
    (hN : 620 < sz → Q (some (vI (zI (-1)))) I Lg R (GM gc))
    (h : sz ≤ 620 → ∀ (I' : II), I' 39 0 0 = zI (sz + 20) → FrI (V0 [123, 39]) I I' → I' 123 0 = tk4 (tk4 (tk4 (tk4 (tk4 (I 123 0) sz.toNat a) (sz.toNat + 4) b) (sz.toNat + 8) c) (sz.toNat + 12) e) (sz.toNat + 16) g → Q (some (vI (zI (sz + 20)))) I' Lg R (GM gc)) :
    am_Sp Γ (d + 1) 0 0 mX10_take [vR 10 0, vI a, vI b, vI c, vI e, vI g] I Lg R (GM gc) Q := by
  refine am_run vX10_take 40 _ rfl rfl rfl rfl ?_
  refine And.intro (fun q => ?_) (fun q => ?_)
  · rw [hsz, zI_toInt (by omega) (by omega), zI_toInt (by omega) (by omega)] at q
    refine s_put hsz h0 (by omega) (fun I1 z1 f1 b1 => ?_)
    refine s_put z1 (by omega) (by omega) (fun I2 z2 f2 b2 => ?_)
    refine s_put z2 (by omega) (by omega) (fun I3 z3 f3 b3 => ?_)
    refine s_put z3 (by omega) (by omega) (fun I4 z4 f4 b4 => ?_)
    refine s_put z4 (by omega) (by omega) (fun I5 z5 f5 b5 => ?_)
    have e5 : sz + 4 + 4 + 4 + 4 + 4 = sz + 20 := by omega
    rw [e5] at z5
    have key := h q I5 z5 ((((f1.tr f2).tr f3).tr f4).tr f5) (by
      rw [b5, b4, b3, b2, b1, show (sz + 4 + 4 + 4 + 4).toNat = sz.toNat + 16 by omega, show (sz + 4 + 4 + 4).toNat = sz.toNat + 12 by omega, show (sz + 4 + 4).toNat = sz.toNat + 8 by omega, show (sz + 4).toNat = sz.toNat + 4 by omega])
    rw [← z5] at key
    exact key
  · rw [hsz, zI_toInt (by omega) (by omega), zI_toInt (by omega) (by omega)] at q
    exact hN q
set_option maxRecDepth 100000 in
theorem s_cut {Γ : AMG} {Q : QQ} {d : Nat} {n : Int32} {I : II} {Lg : LJ} {R : RR} {gc : Nat → Nat} {sz : Int} (hsz : I 39 0 0 = zI sz) (h0 : 0 ≤ sz) (h1 : sz ≤ 640)
    (hN : (n.toInt < 0 ∨ sz < n.toInt) → Q (some (vI (zI 0))) I Lg R (GM gc))
    (h : 0 ≤ n.toInt → n.toInt ≤ sz → Q (some (vI (zI 1))) (up3 I 39 0 0 n) Lg R (GM gc)) :
    am_Sp Γ d 0 0 mX10_cut [vR 10 0, vI n] I Lg R (GM gc) Q := by
  refine am_run vX10_cut 40 _ rfl rfl rfl rfl ?_
  refine And.intro (fun q => ?_) (fun q => ?_)
  · exact ⟨Or.inl rfl, hN (Or.inl q)⟩
  · refine And.intro (fun q2 => ?_) (fun q2 => ?_)
    · rw [hsz, zI_toInt (by omega) (by omega)] at q2
      exact ⟨Or.inr rfl, h q q2⟩
    · rw [hsz, zI_toInt (by omega) (by omega)] at q2
      exact ⟨Or.inl rfl, hN (Or.inr q2)⟩
