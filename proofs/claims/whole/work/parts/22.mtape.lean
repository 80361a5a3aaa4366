/-! The tape of the reference: come, feed, end; the class's feed and end. -/
theorem come_it {Γ : AMG} {Q : QQ} {d : Nat} {n x2 : Int32} {I : II} {Lg : LJ} {R : RR} {gc : Nat → Nat} {s sz : Int} (hx : x2 = zI s) (hsz : I 48 0 0 = zI sz) (h0 : 0 ≤ sz) (h1 : sz < 640) (hs0 : 0 ≤ s) (hs1 : s ≤ 24)
    (h : ∀ (x2 : Int32) (I' : II), x2 = zI (s - 8) → I' 48 0 0 = zI (sz + 1) → FrI (V0 [125, 48]) I I' → (I' 125 0 = fun j => if j = sz.toNat then bt n s else I 125 0 j) → am_J Γ mX12_come Q d 0 0 3 [some (vR 12 0), some (vI n), some (vI x2)] [] I' Lg R (GM gc)) :
    am_J Γ mX12_come Q d 0 0 3 [some (vR 12 0), some (vI n), some (vI x2)] [] I Lg R (GM gc) := by
  subst hx
  refine am_go vX12_come 40 ?_
  refine And.intro (fun c => ?_) (fun _ => ?_)
  · exact absurd c (by rw [zI_toInt (by omega) (by omega)]; omega)
  refine And.intro (by rw [hsz, zI_toInt (by omega) (by omega)]; omega) ?_
  refine h _ _ ?_ ?_ ((FrI.rf.up rfl).up rfl) ?_
  · rw [zI_add]; congr 1
  · simp only [up3_s]
    rw [up3_v _ (by decide), hsz, zI_add]
  · rw [up3_v _ (by decide), hsz, zI_toInt (by omega) (by omega)]
    funext j
    simp only [up3_a, true_and]
    rfl
set_option maxRecDepth 100000 in
theorem s_come {Γ : AMG} {Q : QQ} {d : Nat} {n : Int32} {I : II} {Lg : LJ} {R : RR} {gc : Nat → Nat} {sz : Int} (hsz : I 48 0 0 = zI sz) (h0 : 0 ≤ sz) (h1 : sz ≤ 636)
    (h : ∀ (I' : II), I' 48 0 0 = zI (sz + 4) → FrI (V0 [125, 48]) I I' → I' 125 0 = tk4 (I 125 0) sz.toNat n → Q none I' Lg R (GM gc)) :
    am_Sp Γ d 0 0 mX12_come [vR 12 0, vI n] I Lg R (GM gc) Q := by
  refine am_run vX12_come 10 _ rfl rfl rfl rfl ?_
  refine come_it (s := 24) rfl hsz h0 (by omega) (by omega) (by omega) (fun x2 I1 e1 z1 f1 b1 => ?_)
  refine come_it (s := 16) e1 z1 (by omega) (by omega) (by omega) (by omega) (fun x2 I2 e2 z2 f2 b2 => ?_)
  refine come_it (s := 8) e2 z2 (by omega) (by omega) (by omega) (by omega) (fun x2 I3 e3 z3 f3 b3 => ?_)
  refine come_it (s := 0) e3 z3 (by omega) (by omega) (by omega) (by omega) (fun x2 I4 e4 z4 f4 b4 => ?_)
  subst e4
  refine am_go vX12_come 10 ?_
  refine And.intro (fun c => ?_) (fun c => ?_)
  · refine h I4 (by rw [z4]; congr 1; omega) (((f1.tr f2).tr f3).tr f4) ?_
    rw [b4, b3, b2, b1]
    funext j
    unfold tk4
    have e1 : (sz + 1 + 1 + 1).toNat = sz.toNat + 3 := by omega
    have e2 : (sz + 1 + 1).toNat = sz.toNat + 2 := by omega
    have e3 : (sz + 1).toNat = sz.toNat + 1 := by omega
    rw [e1, e2, e3]
    by_cases q0 : j = sz.toNat
    · simp [q0]
    · by_cases q1 : j = sz.toNat + 1
      · simp [q1]
      · by_cases q2 : j = sz.toNat + 2
        · simp [q2]
        · simp [q0, q1, q2]
  · exact absurd c (by rw [zI_toInt (by omega) (by omega)]; omega)
set_option maxRecDepth 100000 in
theorem s_mfeed {Γ : AMG} {Q : QQ} {d : Nat} {a b c e g : Int32} {I : II} {Lg : LJ} {R : RR} {gc : Nat → Nat} {sz : Int} (hsz : I 48 0 0 = zI sz) (h0 : 0 ≤ sz) (h1 : sz ≤ 640)
    (hN : 620 < sz → Q (some (vI (zI (-1)))) (up3 I 47 0 0 (zI 0)) Lg R (GM gc))
    (h : sz ≤ 620 → ∀ (I' : II), I' 47 0 0 = zI 0 → I' 48 0 0 = zI (sz + 20) → FrI (V0 [125, 48, 47]) I I' → I' 125 0 = tk4 (tk4 (tk4 (tk4 (tk4 (I 125 0) sz.toNat a) (sz.toNat + 4) b) (sz.toNat + 8) c) (sz.toNat + 12) e) (sz.toNat + 16) g → Q (some (vI (zI (sz + 20)))) I' Lg R (GM gc)) :
    am_Sp Γ (d + 1) 0 0 mX12_feed [vR 12 0, vI a, vI b, vI c, vI e, vI g] I Lg R (GM gc) Q := by
  refine am_run vX12_feed 40 _ rfl rfl rfl rfl ?_
  have hs0 : up3 I 47 0 0 (zI 0) 48 0 0 = zI sz := by rw [up3_v _ (by decide), hsz]
  refine And.intro (fun q => ?_) (fun q => ?_)
  · rw [hs0, zI_add, zI_toInt (by omega) (by omega), zI_toInt (by omega) (by omega)] at q
    refine s_come hs0 h0 (by omega) (fun I1 z1 f1 b1 => ?_)
    refine s_come z1 (by omega) (by omega) (fun I2 z2 f2 b2 => ?_)
    refine s_come z2 (by omega) (by omega) (fun I3 z3 f3 b3 => ?_)
    refine s_come z3 (by omega) (by omega) (fun I4 z4 f4 b4 => ?_)
    refine s_come z4 (by omega) (by omega) (fun I5 z5 f5 b5 => ?_)
    have e5 : sz + 4 + 4 + 4 + 4 + 4 = sz + 20 := by omega
    rw [e5] at z5
    have f := ((((f1.tr f2).tr f3).tr f4).tr f5)
    have key := h (by omega) I5 (by rw [f 47 0 rfl, up3_s]) z5 ((FrI.rf.up (P := V0 [125, 48, 47]) rfl).tr (f.mono (fun v i hq => by simp [V0] at hq ⊢; omega))) (by
      rw [b5, b4, b3, b2, b1, show (sz + 4 + 4 + 4 + 4).toNat = sz.toNat + 16 by omega, show (sz + 4 + 4 + 4).toNat = sz.toNat + 12 by omega, show (sz + 4 + 4).toNat = sz.toNat + 8 by omega, show (sz + 4).toNat = sz.toNat + 4 by omega, up3_v _ (by decide)])
    rw [← z5] at key
    exact key
  · rw [hs0, zI_add, zI_toInt (by omega) (by omega), zI_toInt (by omega) (by omega)] at q
    exact hN (by omega)
set_option maxRecDepth 100000 in
theorem s_mend {Γ : AMG} {Q : QQ} {d : Nat} {n : Int32} {I : II} {Lg : LJ} {R : RR} {gc : Nat → Nat} {sz : Int} (hsz : I 48 0 0 = zI sz) (h0 : 0 ≤ sz) (h1 : sz ≤ 640)
    (hN : (n.toInt < 0 ∨ sz < n.toInt) → Q (some (vI (zI 0))) (up3 I 47 0 0 (zI 0)) Lg R (GM gc))
    (h : 0 ≤ n.toInt → n.toInt ≤ sz → Q (some (vI (zI 1))) (up3 (up3 I 47 0 0 (zI 0)) 48 0 0 n) Lg R (GM gc)) :
    am_Sp Γ d 0 0 mX12_end [vR 12 0, vI n] I Lg R (GM gc) Q := by
  refine am_run vX12_end 40 _ rfl rfl rfl rfl ?_
  have hs0 : up3 I 47 0 0 (zI 0) 48 0 0 = zI sz := by rw [up3_v _ (by decide), hsz]
  refine And.intro (fun q => ?_) (fun q => ?_)
  · exact ⟨Or.inl rfl, hN (Or.inl q)⟩
  · refine And.intro (fun q2 => ?_) (fun q2 => ?_)
    · rw [hs0, zI_toInt (by omega) (by omega)] at q2
      exact ⟨Or.inr rfl, h q q2⟩
    · rw [hs0, zI_toInt (by omega) (by omega)] at q2
      exact ⟨Or.inl rfl, hN (Or.inr q2)⟩
