/-! machine in the reference. -/
set_option maxRecDepth 100000 in
theorem s_mmachine {Γ : AMG} {Q : QQ} {d : Nat} {x1 x2 x3 x4 : Int32} {I : II} {Lg : LJ} {R : RR} {gc : Nat → Nat} {rn : Nat → RUN} {l : List MC} (hrn : RNSok rn) (hr : MRunsAt I rn) (hl : l.length ≤ 12) (hc : MMAt I l)
    (h2 : l.length = 12 → Q (some (vI (zI (-2)))) (up3 I 47 0 0 (zI 0)) Lg R (GM gc))
    (h3 : l.length < 12 → ¬ (0 ≤ x1.toInt ∧ x1.toInt ≤ 4 ∧ 0 ≤ x2.toInt ∧ x2.toInt ≤ 99) → Q (some (vI (zI (-3)))) (up3 I 47 0 0 (zI 0)) Lg R (GM gc))
    (h4 : l.length < 12 → (0 ≤ x1.toInt ∧ x1.toInt ≤ 4 ∧ 0 ≤ x2.toInt ∧ x2.toInt ≤ 99) → ¬ standOk rn x1.toInt x3.toInt x4.toInt → Q (some (vI (zI (-4)))) (up3 I 47 0 0 (zI 0)) Lg R (GM gc))
    (hy : l.length < 12 → (0 ≤ x1.toInt ∧ x1.toInt ≤ 4 ∧ 0 ≤ x2.toInt ∧ x2.toInt ≤ 99) → standOk rn x1.toInt x3.toInt x4.toInt → ∀ I' : II, FrI (V0 (47 :: mmv)) I I' → I' 47 0 0 = zI 0 → MMAt I' (l ++ [(x1.toInt, x2.toInt, x3.toInt, x4.toInt)]) → Q (some (vI (zI l.length))) I' Lg R (GM gc)) :
    am_Sp Γ (d + 3) 0 0 mX12_machine [vR 12 0, vI x1, vI x2, vI x3, vI x4] I Lg R (GM gc) Q := by
  refine am_runN vX12_machine (19 - 2) _ rfl rfl rfl rfl ?_
  refine fun y0 ey0 I0 e0 => ?_
  have e0' : I0 = up3 I 47 0 0 (zI 0) := by rw [e0, ey0]
  have f0 : FrI (V0 [47]) I I0 := by rw [e0]; exact FrI.rf.up rfl
  rw [← e0'] at h2 h3 h4
  have hc0 : MMAt I0 l := hc.fr f0 (V0_out (by decide))
  have hth : I0 47 0 0 = zI 0 := by rw [e0', up3_s]
  have hst : (I0 59 0 0).toInt = l.length := by rw [hc0.1, zI_toInt (by omega) (by omega)]
  have hpl : ∀ r : Nat, r < 4 → (I0 131 0 r).toInt = (rn r).length := by
    intro r hr'
    have := (hrn r hr').1
    rw [f0 _ _ rfl, (hr.1 r hr').1, zI_toInt (by omega) (by omega)]
  refine And.intro (fun c => ?_) (fun c => ?_)
  · rw [hst, zI_toInt (by omega) (by omega)] at c
    have hlt : l.length < 12 := by omega
    refine s_isIn (fun j1 j2 => ?_) (fun j1 => ?_)
    · rw [zI_toInt (by omega) (by omega)] at j1 j2
      refine And.intro (fun c4 => ?_) (fun c4 => ?_)
      · rw [zI_toInt (by omega) (by omega)] at c4; omega
      refine s_isIn (fun i1 i2 => ?_) (fun i1 => ?_)
      · rw [zI_toInt (by omega) (by omega)] at i1 i2
        have hkx : 0 ≤ x1.toInt ∧ x1.toInt ≤ 4 ∧ 0 ≤ x2.toInt ∧ x2.toInt ≤ 99 := ⟨j1, j2, i1, i2⟩
        have k105 : ¬ standOk rn x1.toInt x3.toInt x4.toInt → am_J Γ mX12_machine Q (d + 3) 0 0 105 [some (vR 12 0), some (vI x1), some (vI x2), some (vI x3), some (vI x4)] [] I0 Lg R (GM gc) := by
          intro q
          refine am_go vX12_machine 3 ?_
          exact h4 hlt hkx q
        have k108 : standOk rn x1.toInt x3.toInt x4.toInt → am_J Γ mX12_machine Q (d + 3) 0 0 108 [some (vR 12 0), some (vI x1), some (vI x2), some (vI x3), some (vI x4)] [] I0 Lg R (GM gc) := by
          intro q
          refine am_goN vX12_machine 80 ?_
          refine And.intro ⟨by omega, by omega⟩ ?_
          refine fun y1 ey1 I1 e1 => ?_
          have n1 : I1 59 0 0 = I0 59 0 0 := by rw [e1, up3_v _ (by decide)]
          refine And.intro ⟨by rw [n1]; omega, by rw [n1]; omega⟩ ?_
          refine fun y2 ey2 I2 e2 => ?_
          have n2 : I2 59 0 0 = I0 59 0 0 := by rw [e2, up3_v _ (by decide), n1]
          refine And.intro ⟨by rw [n2]; omega, by rw [n2]; omega⟩ ?_
          refine fun y3 ey3 I3 e3 => ?_
          have n3 : I3 59 0 0 = I0 59 0 0 := by rw [e3, up3_v _ (by decide), n2]
          refine And.intro ⟨by rw [n3]; omega, by rw [n3]; omega⟩ ?_
          refine fun y4 ey4 I4 e4 y5 ey5 I5 e5 => ?_
          have n4 : I4 59 0 0 = I0 59 0 0 := by rw [e4, up3_v _ (by decide), n3]
          rw [hst, Int.toNat_natCast] at e1
          rw [n1, hst, Int.toNat_natCast] at e2
          rw [n2, hst, Int.toNat_natCast] at e3
          rw [n3, hst, Int.toNat_natCast] at e4
          have hsz : I5 59 0 0 = zI (l.length + 1 : Nat) := by rw [e5, up3_s, ey5, n4, hc0.1, zI_add]; congr 1
          have f5 : FrI (V0 mmv) I0 I5 := by rw [e5, e4, e3, e2, e1]; exact ((((FrI.rf.up rfl).up rfl).up rfl).up rfl).up rfl
          have := hy hlt hkx q I5 ((f0.mono (fun v i h => V0_sub (by decide) h)).tr (f5.mono (fun v i h => V0_sub (by decide) h))) (by rw [f5 _ _ rfl]; exact hth) ⟨by rw [hsz, List.length_append]; rfl, fun k e he => ?_⟩
          · rw [show zI (l.length : Int) = I5 59 0 0 - zI 1 by rw [hsz, zI_sub]; congr 1; omega] at this
            exact this
          · rcases app_get he with ⟨hk, hv⟩ | ⟨hk, hv⟩
            · subst hk
              subst hv
              refine ⟨?_, ?_, ?_, ?_⟩
              · simp [e5, e4, e3, e2, e1, up3_a, ey1, zI_self]
              · simp [e5, e4, e3, e2, e1, up3_a, ey2, zI_self]
              · simp [e5, e4, e3, e2, e1, up3_a, ey3, zI_self]
              · simp [e5, e4, e3, e2, e1, up3_a, ey4, zI_self]
            · obtain ⟨q1, q2, q3, q4⟩ := hc0.2 k e hv
              refine ⟨?_, ?_, ?_, ?_⟩
              · simp [e5, e4, e3, e2, e1, up3_a, hk, q1]
              · simp [e5, e4, e3, e2, e1, up3_a, hk, q2]
              · simp [e5, e4, e3, e2, e1, up3_a, hk, q3]
              · simp [e5, e4, e3, e2, e1, up3_a, hk, q4]
        have k78 : (x1.toInt ≠ 1 → standOk rn x1.toInt x3.toInt x4.toInt) → am_J Γ mX12_machine Q (d + 3) 0 0 78 [some (vR 12 0), some (vI x1), some (vI x2), some (vI x3), some (vI x4)] [] I0 Lg R (GM gc) := by
          intro hs
          refine am_go vX12_machine 3 ?_
          refine And.intro (fun c => ?_) (fun c => ?_)
          · rw [zI_toInt (by omega) (by omega)] at c
            exact k108 (hs c)
          · rw [zI_toInt (by omega) (by omega)] at c
            have hk : x1.toInt = 1 := by omega
            refine am_go vX12_machine 5 ?_
            refine s_isIn (fun a1 a2 => ?_) (fun a1 => ?_)
            · rw [zI_toInt (by omega) (by omega)] at a1 a2
              refine And.intro (fun c4 => ?_) (fun c4 => ?_)
              · rw [zI_toInt (by omega) (by omega)] at c4; omega
              refine am_go vX12_machine 5 ?_
              refine s_isIn (fun b1 b2 => ?_) (fun b1 => ?_)
              · rw [zI_toInt (by omega) (by omega)] at b1 b2
                refine And.intro (fun c4 => ?_) (fun c4 => ?_)
                · exact k108 ⟨fun q => by omega, fun q => by omega, fun q => ⟨a1, a2, b1, b2⟩⟩
                · rw [zI_toInt (by omega) (by omega)] at c4; omega
              · rw [zI_toInt (by omega) (by omega), zI_toInt (by omega) (by omega)] at b1
                refine And.intro (fun c4 => ?_) (fun c4 => ?_)
                · rw [zI_toInt (by omega) (by omega)] at c4; omega
                · exact k105 (fun q => by have := q.2.2 hk; omega)
            · rw [zI_toInt (by omega) (by omega), zI_toInt (by omega) (by omega)] at a1
              refine And.intro (fun c4 => ?_) (fun c4 => ?_)
              · exact k105 (fun q => by have := q.2.2 hk; omega)
              · rw [zI_toInt (by omega) (by omega)] at c4; omega
        have k48 : (x1.toInt = 0 ∨ x1.toInt = 4) → am_J Γ mX12_machine Q (d + 3) 0 0 48 [some (vR 12 0), some (vI x1), some (vI x2), some (vI x3), some (vI x4)] [] I0 Lg R (GM gc) := by
          intro h04
          refine am_go vX12_machine 4 ?_
          refine s_isRun (fun a1 a2 a3 => ?_) (fun a1 => ?_)
          · rw [hpl _ (by omega)] at a3
            refine And.intro (fun c4 => ?_) (fun c4 => ?_)
            · rw [zI_toInt (by omega) (by omega)] at c4; omega
            refine am_go vX12_machine 3 ?_
            refine And.intro (fun c => ?_) (fun c => ?_)
            · rw [zI_toInt (by omega) (by omega)] at c
              exact k78 (fun _ => ⟨fun _ => ⟨x3.toInt.toNat, by omega, by omega, by omega⟩, fun q => by omega, fun q => by omega⟩)
            · rw [zI_toInt (by omega) (by omega)] at c
              have hk : x1.toInt = 4 := by omega
              have hlen := (hrn x3.toInt.toNat (by omega)).1
              have hb : (I0 131 0 x3.toInt.toNat - zI 1).toInt = ((rn x3.toInt.toNat).length : Int) - 1 := by rw [f0 _ _ rfl, (hr.1 _ (by omega)).1, zI_sub, zI_toInt (by omega) (by omega)]
              refine am_go vX12_machine 10 ?_
              refine And.intro ⟨by omega, by omega⟩ ?_
              refine s_isIn (fun b1 b2 => ?_) (fun b1 => ?_)
              · rw [zI_toInt (by omega) (by omega)] at b1
                rw [hb] at b2
                refine And.intro (fun c4 => ?_) (fun c4 => ?_)
                · rw [zI_toInt (by omega) (by omega)] at c4; omega
                · exact k78 (fun _ => ⟨fun q => by omega, fun _ => ⟨x3.toInt.toNat, by omega, by omega, b1, by omega⟩, fun q => by omega⟩)
              · rw [zI_toInt (by omega) (by omega), hb] at b1
                refine And.intro (fun c4 => ?_) (fun c4 => ?_)
                · refine k105 (fun q => ?_)
                  obtain ⟨r, q1, q2, q3, q4⟩ := q.2.1 hk
                  have : r = x3.toInt.toNat := by omega
                  subst this
                  omega
                · rw [zI_toInt (by omega) (by omega)] at c4; omega
          · have hno : ¬ standOk rn x1.toInt x3.toInt x4.toInt := by
              intro q
              have hex : ∃ r : Nat, r < 4 ∧ x3.toInt = r ∧ 0 < (rn r).length := by
                rcases h04 with h | h
                · exact q.1 h
                · obtain ⟨r, q1, q2, q3, q4⟩ := q.2.1 h
                  exact ⟨r, q1, q2, by omega⟩
              obtain ⟨r, q1, q2, q3⟩ := hex
              have hrr : x3.toInt.toNat = r := by omega
              rcases a1 with a1 | a1 | ⟨_, _, a1⟩
              · omega
              · omega
              · rw [hrr, hpl r q1] at a1
                omega
            refine And.intro (fun c4 => ?_) (fun c4 => ?_)
            · exact k105 hno
            · rw [zI_toInt (by omega) (by omega)] at c4; omega
        refine And.intro (fun c4 => ?_) (fun c4 => ?_)
        · refine am_go vX12_machine 2 ?_
          refine And.intro (fun c5 => ?_) (fun c5 => ?_)
          · exact k48 (Or.inl c5)
          · refine am_go vX12_machine 3 ?_
            refine And.intro (fun c6 => ?_) (fun c6 => ?_)
            · rw [zI_toInt (by omega) (by omega)] at c6
              refine am_go vX12_machine 3 ?_
              refine And.intro (fun c7 => ?_) (fun c7 => ?_)
              · exact k78 (fun q => ⟨fun z => by omega, fun z => by omega, fun z => by omega⟩)
              · rw [zI_toInt (by omega) (by omega)] at c7
                omega
            · rw [zI_toInt (by omega) (by omega)] at c6
              exact k48 (Or.inr (by omega))
        · rw [zI_toInt (by omega) (by omega)] at c4; omega
      · rw [zI_toInt (by omega) (by omega), zI_toInt (by omega) (by omega)] at i1
        refine And.intro (fun c4 => ?_) (fun c4 => ?_)
        · rw [zI_toInt (by omega) (by omega)] at c4; omega
        · refine am_go vX12_machine 3 ?_
          exact h3 hlt (fun q => by omega)
    · rw [zI_toInt (by omega) (by omega), zI_toInt (by omega) (by omega)] at j1
      refine And.intro (fun c4 => ?_) (fun c4 => ?_)
      · exact h3 hlt (fun q => by omega)
      · rw [zI_toInt (by omega) (by omega)] at c4; omega
  · rw [hst, zI_toInt (by omega) (by omega)] at c
    exact h2 (by omega)
