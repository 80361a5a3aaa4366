/-! Small methods of both sides. -/
set_option maxRecDepth 100000 in
theorem s_isIn {Γ : AMG} {Q : QQ} {d : Nat} {v a b : Int32} {I : II} {Lg : LJ} {R : RR} {G : GG} (h1 : a.toInt ≤ v.toInt → v.toInt ≤ b.toInt → Q (some (vI (zI 1))) I Lg R G) (h0 : (v.toInt < a.toInt ∨ b.toInt < v.toInt) → Q (some (vI (zI 0))) I Lg R G) :
    am_Sp Γ d 0 0 mX12_isIn [vI v, vI a, vI b] I Lg R G Q := by
  refine am_run vX12_isIn 40 _ rfl rfl rfl rfl ?_
  refine And.intro (fun c1 => ?_) (fun c1 => ?_)
  · exact ⟨Or.inl rfl, h0 (Or.inl c1)⟩
  · refine And.intro (fun c2 => ?_) (fun c2 => ?_)
    · exact ⟨Or.inl rfl, h0 (Or.inr c2)⟩
    · exact ⟨Or.inr rfl, h1 c1 c2⟩
set_option maxRecDepth 100000 in
theorem s_within {Γ : AMG} {Q : QQ} {d : Nat} {v a b : Int32} {I : II} {Lg : LJ} {R : RR} {G : GG} (h1 : a.toInt ≤ v.toInt → v.toInt ≤ b.toInt → Q (some (vI (zI 1))) I Lg R G) (h0 : (v.toInt < a.toInt ∨ b.toInt < v.toInt) → Q (some (vI (zI 0))) I Lg R G) :
    am_Sp Γ d 0 0 mX11_within [vI v, vI a, vI b] I Lg R G Q := by
  refine am_run vX11_within 40 _ rfl rfl rfl rfl ?_
  refine And.intro (fun c1 => ?_) (fun c1 => ?_)
  · exact ⟨Or.inl rfl, h0 (Or.inl c1)⟩
  · refine And.intro (fun c2 => ?_) (fun c2 => ?_)
    · exact ⟨Or.inl rfl, h0 (Or.inr c2)⟩
    · exact ⟨Or.inr rfl, h1 c1 c2⟩
set_option maxRecDepth 100000 in
theorem s_isSlot {Γ : AMG} {Q : QQ} {d : Nat} {r : Int32} {I : II} {Lg : LJ} {R : RR} {G : GG} (h1 : 0 ≤ r.toInt → r.toInt < 4 → Q (some (vI (zI 1))) I Lg R G) (h0 : (r.toInt < 0 ∨ 4 ≤ r.toInt) → Q (some (vI (zI 0))) I Lg R G) :
    am_Sp Γ d 0 0 mX12_isSlot [vI r] I Lg R G Q := by
  refine am_run vX12_isSlot 40 _ rfl rfl rfl rfl ?_
  refine And.intro (fun c1 => ?_) (fun c1 => ?_)
  · exact ⟨Or.inl rfl, h0 (Or.inl c1)⟩
  · refine And.intro (fun c2 => ?_) (fun c2 => ?_)
    · exact ⟨Or.inl rfl, h0 (Or.inr (by rwa [zI_toInt (by omega) (by omega)] at c2))⟩
    · exact ⟨Or.inr rfl, h1 c1 (by rwa [zI_toInt (by omega) (by omega)] at c2)⟩
set_option maxRecDepth 100000 in
theorem s_isRun {Γ : AMG} {Q : QQ} {d : Nat} {r : Int32} {I : II} {Lg : LJ} {R : RR} {gc : Nat → Nat} (h1 : 0 ≤ r.toInt → r.toInt < 4 → 0 < (I 131 0 r.toInt.toNat).toInt → Q (some (vI (zI 1))) I Lg R (GM gc)) (h0 : (r.toInt < 0 ∨ 4 ≤ r.toInt ∨ (0 ≤ r.toInt ∧ r.toInt < 4 ∧ (I 131 0 r.toInt.toNat).toInt ≤ 0)) → Q (some (vI (zI 0))) I Lg R (GM gc)) :
    am_Sp Γ (d + 1) 0 0 mX12_isRun [vR 12 0, vI r] I Lg R (GM gc) Q := by
  refine am_run vX12_isRun 40 _ rfl rfl rfl rfl ?_
  refine s_isSlot (fun a b => ?_) (fun a => ?_)
  · refine And.intro (fun c => ?_) (fun c => ?_)
    · exact absurd c (by rw [zI_toInt (by omega) (by omega)]; omega)
    · refine And.intro ⟨a, by omega⟩ ?_
      refine And.intro (fun c2 => ?_) (fun c2 => ?_)
      · exact ⟨Or.inl rfl, h0 (by omega)⟩
      · exact ⟨Or.inr rfl, h1 a b c2⟩
  · refine And.intro (fun c => ?_) (fun c => ?_)
    · exact ⟨Or.inl rfl, h0 (by omega)⟩
    · exact absurd c (by rw [zI_toInt (by omega) (by omega)]; omega)
set_option maxRecDepth 100000 in
theorem s_thrown {Γ : AMG} {Q : QQ} {d : Nat} {I : II} {Lg : LJ} {R : RR} {G : GG} (h : Q (some (vI (I 47 0 0))) I Lg R G) : am_Sp Γ d 0 0 mX12_thrown [vR 12 0] I Lg R G Q :=
  am_run vX12_thrown 40 _ rfl rfl rfl rfl h
set_option maxRecDepth 100000 in
theorem s_refuse {Γ : AMG} {Q : QQ} {d : Nat} {I : II} {Lg : LJ} {R : RR} {G : GG} (h : Q (some (vI (zI 0))) (up3 I 47 0 0 (zI 1)) Lg R G) : am_Sp Γ d 0 0 mX12_refuse [vR 12 0] I Lg R G Q :=
  am_run vX12_refuse 40 _ rfl rfl rfl rfl h
set_option maxRecDepth 100000 in
theorem s_mfault {Γ : AMG} {Q : QQ} {d : Nat} {I : II} {Lg : LJ} {R : RR} {G : GG} (h : Q (some (vI (I 66 0 0))) (up3 I 47 0 0 (zI 0)) Lg R G) : am_Sp Γ d 0 0 mX12_fault [vR 12 0] I Lg R G Q :=
  am_run vX12_fault 40 _ rfl rfl rfl rfl h
set_option maxRecDepth 100000 in
theorem s_fault {Γ : AMG} {Q : QQ} {d : Nat} {I : II} {Lg : LJ} {R : RR} {gc : Nat → Nat} (h : Q (some (vI (I 37 0 0))) I Lg R (GM gc)) : am_Sp Γ d 0 0 mX11_fault [vR 11 0] I Lg R (GM gc) Q :=
  am_run vX11_fault 40 _ rfl rfl rfl rfl h
set_option maxRecDepth 100000 in
theorem s_isDigit {Γ : AMG} {Q : QQ} {d : Nat} {r : Int32} {I : II} {Lg : LJ} {R : RR} {G : GG} (h1 : 48 ≤ r.toInt → r.toInt ≤ 57 → Q (some (vI (zI 1))) I Lg R G) (h0 : (r.toInt < 48 ∨ 57 < r.toInt) → Q (some (vI (zI 0))) I Lg R G) :
    am_Sp Γ d 0 0 mX10_isDigit [vI r] I Lg R G Q := by
  refine am_run vX10_isDigit 40 _ rfl rfl rfl rfl ?_
  refine And.intro (fun c1 => ?_) (fun c1 => ?_)
  · exact ⟨Or.inl rfl, h0 (Or.inl (by rwa [zI_toInt (by omega) (by omega)] at c1))⟩
  · refine And.intro (fun c2 => ?_) (fun c2 => ?_)
    · exact ⟨Or.inl rfl, h0 (Or.inr (by rwa [zI_toInt (by omega) (by omega)] at c2))⟩
    · exact ⟨Or.inr rfl, h1 (by rwa [zI_toInt (by omega) (by omega)] at c1) (by rwa [zI_toInt (by omega) (by omega)] at c2)⟩
set_option maxRecDepth 100000 in
theorem s_isLetter {Γ : AMG} {Q : QQ} {d : Nat} {r : Int32} {I : II} {Lg : LJ} {R : RR} {G : GG} (h1 : 97 ≤ r.toInt → r.toInt ≤ 122 → Q (some (vI (zI 1))) I Lg R G) (h0 : (r.toInt < 97 ∨ 122 < r.toInt) → Q (some (vI (zI 0))) I Lg R G) :
    am_Sp Γ d 0 0 mX10_isLetter [vI r] I Lg R G Q := by
  refine am_run vX10_isLetter 40 _ rfl rfl rfl rfl ?_
  refine And.intro (fun c1 => ?_) (fun c1 => ?_)
  · exact ⟨Or.inl rfl, h0 (Or.inl (by rwa [zI_toInt (by omega) (by omega)] at c1))⟩
  · refine And.intro (fun c2 => ?_) (fun c2 => ?_)
    · exact ⟨Or.inl rfl, h0 (Or.inr (by rwa [zI_toInt (by omega) (by omega)] at c2))⟩
    · exact ⟨Or.inr rfl, h1 (by rwa [zI_toInt (by omega) (by omega)] at c1) (by rwa [zI_toInt (by omega) (by omega)] at c2)⟩
set_option maxRecDepth 100000 in
theorem s_isBlank {Γ : AMG} {Q : QQ} {d : Nat} {r : Int32} {I : II} {Lg : LJ} {R : RR} {G : GG} (h1 : (r.toInt = 32 ∨ r.toInt = 10) → Q (some (vI (zI 1))) I Lg R G) (h0 : r.toInt ≠ 32 → r.toInt ≠ 10 → Q (some (vI (zI 0))) I Lg R G) :
    am_Sp Γ d 0 0 mX10_isBlank [vI r] I Lg R G Q := by
  refine am_run vX10_isBlank 40 _ rfl rfl rfl rfl ?_
  refine And.intro (fun c1 => ?_) (fun c1 => ?_)
  · exact ⟨Or.inr rfl, h1 (Or.inl (by rwa [zI_toInt (by omega) (by omega)] at c1))⟩
  · refine And.intro (fun c2 => ?_) (fun c2 => ?_)
    · exact ⟨Or.inl rfl, h0 (by rwa [zI_toInt (by omega) (by omega)] at c1) (by rwa [zI_toInt (by omega) (by omega)] at c2)⟩
    · exact ⟨Or.inr rfl, h1 (Or.inr (by rwa [zI_toInt (by omega) (by omega)] at c2))⟩
set_option maxRecDepth 100000 in
theorem s_misDigit {Γ : AMG} {Q : QQ} {d : Nat} {r : Int32} {I : II} {Lg : LJ} {R : RR} {G : GG} (h1 : 48 ≤ r.toInt → r.toInt ≤ 57 → Q (some (vI (zI 1))) I Lg R G) (h0 : (r.toInt < 48 ∨ 57 < r.toInt) → Q (some (vI (zI 0))) I Lg R G) :
    am_Sp Γ d 0 0 mX12_isDigit [vI r] I Lg R G Q := by
  refine am_run vX12_isDigit 40 _ rfl rfl rfl rfl ?_
  refine And.intro (fun c1 => ?_) (fun c1 => ?_)
  · exact ⟨Or.inl rfl, h0 (Or.inl (by rwa [zI_toInt (by omega) (by omega)] at c1))⟩
  · refine And.intro (fun c2 => ?_) (fun c2 => ?_)
    · exact ⟨Or.inl rfl, h0 (Or.inr (by rwa [zI_toInt (by omega) (by omega)] at c2))⟩
    · exact ⟨Or.inr rfl, h1 (by rwa [zI_toInt (by omega) (by omega)] at c1) (by rwa [zI_toInt (by omega) (by omega)] at c2)⟩
set_option maxRecDepth 100000 in
theorem s_misLetter {Γ : AMG} {Q : QQ} {d : Nat} {r : Int32} {I : II} {Lg : LJ} {R : RR} {G : GG} (h1 : 97 ≤ r.toInt → r.toInt ≤ 122 → Q (some (vI (zI 1))) I Lg R G) (h0 : (r.toInt < 97 ∨ 122 < r.toInt) → Q (some (vI (zI 0))) I Lg R G) :
    am_Sp Γ d 0 0 mX12_isLetter [vI r] I Lg R G Q := by
  refine am_run vX12_isLetter 40 _ rfl rfl rfl rfl ?_
  refine And.intro (fun c1 => ?_) (fun c1 => ?_)
  · exact ⟨Or.inl rfl, h0 (Or.inl (by rwa [zI_toInt (by omega) (by omega)] at c1))⟩
  · refine And.intro (fun c2 => ?_) (fun c2 => ?_)
    · exact ⟨Or.inl rfl, h0 (Or.inr (by rwa [zI_toInt (by omega) (by omega)] at c2))⟩
    · exact ⟨Or.inr rfl, h1 (by rwa [zI_toInt (by omega) (by omega)] at c1) (by rwa [zI_toInt (by omega) (by omega)] at c2)⟩
set_option maxRecDepth 100000 in
theorem s_far {Γ : AMG} {Q : QQ} {d : Nat} {a b : Int} {I : II} {Lg : LJ} {R : RR} {G : GG} (ha : -1000000000 ≤ a ∧ a ≤ 1000000000) (hb : -1000000000 ≤ b ∧ b ≤ 1000000000) (h : Q (some (vI (zI (a - b).natAbs))) I Lg R G) :
    am_Sp Γ d 0 0 mX12_far [vI (zI a), vI (zI b)] I Lg R G Q := by
  refine am_run vX12_far 40 _ rfl rfl rfl rfl ?_
  refine And.intro (fun c => ?_) (fun c => ?_)
  · rw [zI_toInt (by omega) (by omega), zI_toInt (by omega) (by omega)] at c
    have e : zI b - zI a = zI (a - b).natAbs := by rw [zI_sub]; congr 1; omega
    rw [← e] at h
    exact h
  · rw [zI_toInt (by omega) (by omega), zI_toInt (by omega) (by omega)] at c
    have e : zI a - zI b = zI (a - b).natAbs := by rw [zI_sub]; congr 1; omega
    rw [← e] at h
    exact h
