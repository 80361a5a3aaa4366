/-! Two balls. -/
set_option maxRecDepth 100000 in
theorem s_overtook {Γ : AMG} {Q : QQ} {d a b : Nat} {I : II} {Lg : LJ} {R : RR} {G : GG}
    (hy : (I 5 a 0).toInt < (I 5 b 0).toInt → (I 2 b 0).toInt < (I 2 a 0).toInt → Q (some (vI (zI 1))) I Lg R G)
    (hn : ¬ ((I 5 a 0).toInt < (I 5 b 0).toInt ∧ (I 2 b 0).toInt < (I 2 a 0).toInt) → Q (some (vI (zI 0))) I Lg R G) : am_Sp Γ d 0 0 mX0_overtook [vR 0 a, vR 0 b] I Lg R G Q := by
  refine am_run vX0_overtook 60 _ rfl rfl rfl rfl ?_
  refine And.intro (fun c => ?_) (fun c => ?_)
  · exact ⟨Or.inl rfl, hn (fun q => by omega)⟩
  refine And.intro (fun c2 => ?_) (fun c2 => ?_)
  · exact ⟨Or.inl rfl, hn (fun q => by omega)⟩
  · exact ⟨Or.inr rfl, hy (by omega) (by omega)⟩
set_option maxRecDepth 100000 in
theorem s_stayedWith {Γ : AMG} {Q : QQ} {d a b : Nat} {I : II} {Lg : LJ} {R : RR} {G : GG}
    (hy : (I 1 a 0).toInt ≠ 255 → (I 0 a 0).toInt = (I 0 b 0).toInt → (I 1 a 0).toInt = (I 1 b 0).toInt → (I 4 a 0).toInt = (I 1 a 0).toInt → (I 4 b 0).toInt = (I 1 a 0).toInt → Q (some (vI (zI 1))) I Lg R G)
    (hn : ¬ ((I 1 a 0).toInt ≠ 255 ∧ (I 0 a 0).toInt = (I 0 b 0).toInt ∧ (I 1 a 0).toInt = (I 1 b 0).toInt ∧ (I 4 a 0).toInt = (I 1 a 0).toInt ∧ (I 4 b 0).toInt = (I 1 a 0).toInt) → Q (some (vI (zI 0))) I Lg R G) : am_Sp Γ d 0 0 mX0_stayedWith [vR 0 a, vR 0 b] I Lg R G Q := by
  refine am_run vX0_stayedWith 60 _ rfl rfl rfl rfl ?_
  refine And.intro (fun c => ?_) (fun c => ?_)
  · rw [zI_toInt (by omega) (by omega)] at c
    exact ⟨Or.inl rfl, hn (fun q => q.1 c)⟩
  rw [zI_toInt (by omega) (by omega)] at c
  refine And.intro (fun c2 => ?_) (fun c2 => ?_)
  · exact ⟨Or.inl rfl, hn (fun q => c2 q.2.1)⟩
  refine And.intro (fun c3 => ?_) (fun c3 => ?_)
  · exact ⟨Or.inl rfl, hn (fun q => c3 q.2.2.1)⟩
  refine And.intro (fun c4 => ?_) (fun c4 => ?_)
  · exact ⟨Or.inl rfl, hn (fun q => c4 q.2.2.2.1)⟩
  refine And.intro (fun c5 => ?_) (fun c5 => ?_)
  · exact ⟨Or.inl rfl, hn (fun q => c5 q.2.2.2.2)⟩
  · exact ⟨Or.inr rfl, hy (by omega) (by omega) (by omega) (by omega) (by omega)⟩
