/-! The law's calls of the methods that catch. -/
section AMZ
variable {Γ : AMG} {M M2 : MD} {Q : QQ} {d k n k2 n2 pc : Nat} {L : LL} {st As rest : List AV} {I : II} {Lg : LJ} {R : RR} {G : GG} {hh : List (Nat × Nat × Nat × Nat)}
theorem ar_invSW {idx : Nat} (hst : st = As.reverse ++ rest) (hc : Cond.codeWith M2.2.1 M2.2.2.1 M2.2.2.2.1 M2.2.2.2.2.1 hh ∈ am_BIG) (hok : M2.2.1.cls = M2.1 ∧ M2.2.1.cls ≠ "java/lang/invoke/MethodHandle" ∧ M2.2.1.cls ≠ "java/lang/invoke/VarHandle" ∧ (parseMethodDescriptor M2.2.1.desc).map (fun d => d.parameters.length) = some As.length ∧ M2.2.2.2.1 ≤ 29) (h1 : Cond.methodLink M.1 idx M2.2.1 ∈ am_BIG) (h2 : Cond.static M2.2.1 ∈ am_BIG) (h4 : Cond.initialized M2.1 ∈ am_BIG)
    (hcat : am_cats rest ≤ 8) (hd : decode M.2.2.1 pc = .ok (.invokestatic idx, 3)) (h : am_SpW Γ d k2 n2 M2 hh As I Lg R G (fun r I' Lg' R' G' => am_J Γ M Q (d + 1) k n (pc + 3) L (r.toList ++ rest) I' Lg' R' G')) : am_J Γ M Q (d + 1) (k2 + k) (n2 + n) pc L st I Lg R G := by
  subst hst
  intro ρ p e Rm s m args below meth c0 H locs cells slots Z C g1 g2 g3 g4 hW hl hoL hoS ret ls hL
  have hargs : am_okS G As := fun v hv => hoS v (by simp [hv])
  have hrest : am_okS G rest := fun v hv => hoS v (by simp [hv])
  have hGK : am_GK Γ := C.2.2.2.2.2.2.2.2.2
  have hK : am_K Γ s := C.2.2.2.2.2.2.2.2.1
  have hts := C.2.2.2.2.2.2.1
  have hM := h ρ hGK hargs
  have hl29 := hok.2.2.2.2
  have hgood : GoodIn am_BIG (va_wsS M.1 idx M2.2.1 (am_wsW M2 hh)) := am_BIG_good (fun w hw => by
    unfold va_wsS at hw
    rcases List.mem_append.mp hw with hw | hw
    · simp only [List.mem_cons, List.not_mem_nil, or_false] at hw
      rcases hw with rfl | rfl | rfl
      · exact h1
      · exact h2
      · rw [hok.1]; exact h4
    · rcases List.mem_cons.mp hw with rfl | hw
      · exact hc
      · exact hw)
  exact am_J.call (k2 := k2) (n2 := n2) (rest := rest) (st0 := (As.reverse ++ rest).map (am_con ρ)) (vx_runSW (As := As.map (am_con ρ)) (rest := rest.map (am_con ρ)) ⟨C.1, C.2.1, C.2.2.1, C.2.2.2.2.2.1, hts⟩ hM (vx_cwSW (ws' := am_BIG) As.length hts hgood rfl rfl rfl ⟨hok.2.1, hok.2.2.1, hok.2.2.2.1⟩ ⟨by show d + 1 ≤ _; exact g1, by show 8 + (M2.2.2.2.1 + 11) + am_LOC * d ≤ _; have e9 : am_LOC * (d + 1) = am_LOC * d + 48 := rfl; omega⟩) ⟨am_Pc_blind hGK, fun U hU hWm => ⟨rfl, hK.warm hGK hWm, by rw [hU]; exact hW⟩⟩ rfl (by simp) (hL.1.trans hoL.1) (by show List.map _ _ = _; simp) (lv_room (by rw [am_cats_con]; exact hcat)) hd ⟨by omega, by omega⟩) C g1 g2 g3 g4 hl hoL hrest ret hL
end AMZ
theorem xlc_knock : Cond.codeWith mL_knock.2.1 mL_knock.2.2.1 mL_knock.2.2.2.1 mL_knock.2.2.2.2.1 xhh ∈ am_BIG := xok_at (i := 1225) (by decide +kernel) (by decide +kernel)
theorem xlc_event : Cond.codeWith mL_event.2.1 mL_event.2.2.1 mL_event.2.2.2.1 mL_event.2.2.2.2.1 xhh ∈ am_BIG := xok_at (i := 1302) (by decide +kernel) (by decide +kernel)
theorem xlc_sound : Cond.codeWith mL_sound.2.1 mL_sound.2.2.1 mL_sound.2.2.2.1 mL_sound.2.2.2.2.1 xhh ∈ am_BIG := xok_at (i := 1315) (by decide +kernel) (by decide +kernel)
theorem xll_knock : Cond.methodLink "StormLoftLaw" 49 mL_knock.2.1 ∈ am_BIG := xok_at (i := 1223) (by decide +kernel) (by decide +kernel)
theorem xll_event : Cond.methodLink "StormLoftLaw" 76 mL_event.2.1 ∈ am_BIG := xok_at (i := 1300) (by decide +kernel) (by decide +kernel)
theorem xll_sound : Cond.methodLink "StormLoftLaw" 83 mL_sound.2.1 ∈ am_BIG := xok_at (i := 1313) (by decide +kernel) (by decide +kernel)
theorem xls_knock : Cond.static mL_knock.2.1 ∈ am_BIG := xok_at (i := 1224) (by decide +kernel) (by decide +kernel)
theorem xls_event : Cond.static mL_event.2.1 ∈ am_BIG := xok_at (i := 1301) (by decide +kernel) (by decide +kernel)
theorem xls_sound : Cond.static mL_sound.2.1 ∈ am_BIG := xok_at (i := 1314) (by decide +kernel) (by decide +kernel)
