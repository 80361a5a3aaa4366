set_option maxRecDepth 100000 in
theorem s_mrun {Γ : AMG} {Q : QQ} {d nb : Nat} {x1 : Int32} {I : II} {Lg : LJ} {R : RR} {gc : Nat → Nat} {sz : Nat} {bs : Nat → Int} (hb : BSsok sz bs) (ht : MTapeAt I sz bs) (hnb : I 49 0 0 = zI nb) (hnb16 : nb ≤ 16)
    (hy : ∀ r : Nat, r < 4 → x1 = zI r → runOk sz bs nb → ∀ I' : II, FrI (V0 [47, 48, 131, 132, 133, 134]) I I' → I' 47 0 0 = zI 0 → I' 48 0 0 = zI 0 → (∀ v, I' 131 0 v = if v = r then zI (sz / 3 : Nat) else I 131 0 v) → MRowAt I' I r (sz / 3) bs → Q (some (vI (zI (sz / 3 : Nat)))) I' Lg R (GM gc))
    (hn : ((x1.toInt < 0 ∨ 4 ≤ x1.toInt) ∨ ¬ runOk sz bs nb) → ∀ I' : II, FrI (V0 [47, 48]) I I' → I' 47 0 0 = zI 0 → I' 48 0 0 = zI 0 → Q (some (vI (zI (-1)))) I' Lg R (GM gc)) :
    am_Sp Γ (d + 1) 0 0 mX12_run [vR 12 0, vI x1] I Lg R (GM gc) Q := by
  have hsz := hb.1
  refine am_runN vX12_run 60 _ rfl rfl rfl rfl ?_
  refine fun y1 ey1 I1 e1 x2 ex2 y2 ey2 I2 e2 => ?_
  have hx2 : x2 = zI sz := by rw [ex2, e1, up3_v _ (by decide)]; exact ht.1
  have hf : FrI (V0 [47, 48]) I I2 := by rw [e2, e1]; exact (FrI.rf.up rfl).up rfl
  have hth : I2 47 0 0 = zI 0 := by rw [e2, up3_v _ (by decide), e1, up3_s, ey1]
  have htd : I2 48 0 0 = zI 0 := by rw [e2, up3_s, ey2]
  refine And.intro (by rw [zI_toInt (by omega) (by omega)]; omega) ?_
  refine fun x3 ex3 => ?_
  have hx3 : x3 = zI (sz / 3 : Nat) := by rw [ex3, hx2, zI_divN (by omega) (by omega) (by omega) (by omega)]; congr 1
  have hrem : (x2 - x2 / zI 3 * zI 3).toInt = ((sz % 3 : Nat) : Int) := by rw [hx2, zI_remN (by omega) (by omega) (by omega) (by omega), zI_toInt (by omega) (by omega)]; omega
  have hx3t : x3.toInt = (sz / 3 : Nat) := by rw [hx3, zI_toInt (by omega) (by omega)]
  refine s_isSlot (fun s1 s2 => ?_) (fun s1 => ?_)
  · refine And.intro (fun c => ?_) (fun c => ?_)
    · rw [zI_toInt (by omega) (by omega)] at c
      omega
    refine And.intro (by rw [zI_toInt (by omega) (by omega)]; omega) ?_
    refine And.intro (fun c2 => ?_) (fun c2 => ?_)
    · rw [hrem] at c2
      exact hn (Or.inr (fun q => by have := q.1; omega)) I2 hf hth htd
    rw [hrem] at c2
    refine s_isIn (fun j1 j2 => ?_) (fun j1 => ?_)
    · rw [hx3t, zI_toInt (by omega) (by omega)] at j1
      rw [hx3t, zI_toInt (by omega) (by omega)] at j2
      refine And.intro (fun c3 => ?_) (fun c3 => ?_)
      · refine fun x4 ex4 => ?_
        have hx1 : x1 = zI x1.toInt.toNat := by rw [show ((x1.toInt.toNat : Nat) : Int) = x1.toInt by omega, zI_self]
        have ht2 : ∀ k, k < sz → I2 125 0 k = zI (bs k) := fun k hk => by rw [hf _ _ rfl]; exact ht.2 k hk
        refine mrun_check hb ht2 (by rw [hf _ _ rfl]; exact hnb) hnb16 (by omega) hx3 (fun x4' l5 l6 hall => ?_) (fun hno => hn (Or.inr (fun q => hno q.2.2.2)) I2 hf hth htd) (sz / 3) 0 x4 _ _ (by omega) ex4 (fun p hp => by omega)
        refine am_goN vX12_run 20 ?_
        refine And.intro ⟨by omega, by omega⟩ ?_
        refine fun y3 ey3 I3 e3 x4'' ex4'' => ?_
        have f3 : FrI (V0 [131]) I2 I3 := by rw [e3]; exact FrI.rf.up rfl
        refine mrun_write (r := x1.toInt.toNat) (fun k hk => by rw [f3 _ _ rfl]; exact ht2 k hk) (by omega) (by omega) hx1 hx3 (fun I4 f4 m4 => ?_) (sz / 3) 0 x4'' _ _ I3 (by omega) ex4'' FrI.rf ⟨fun p hp => by omega, fun v hv => ⟨rfl, rfl, rfl⟩⟩
        refine hy x1.toInt.toNat (by omega) hx1 ⟨by omega, by omega, by omega, hall⟩ I4 ?_ (by rw [f4 _ _ rfl, f3 _ _ rfl]; exact hth) (by rw [f4 _ _ rfl, f3 _ _ rfl]; exact htd) (fun v => ?_) ⟨m4.1, fun v hv => ?_⟩
        · exact (hf.mono (fun v i h => V0_sub (by decide) h)).tr ((f3.mono (fun v i h => V0_sub (by decide) h)).tr (f4.mono (fun v i h => V0_sub (by decide) h)))
        · rw [f4 _ _ rfl, e3, up3_a, ey3, hx3, hf _ _ rfl]
          simp
        · obtain ⟨q1, q2, q3⟩ := m4.2 v hv
          exact ⟨by rw [q1, f3 _ _ rfl, hf _ _ rfl], by rw [q2, f3 _ _ rfl, hf _ _ rfl], by rw [q3, f3 _ _ rfl, hf _ _ rfl]⟩
      · rw [zI_toInt (by omega) (by omega)] at c3
        omega
    · rw [hx3t, zI_toInt (by omega) (by omega), zI_toInt (by omega) (by omega)] at j1
      refine And.intro (fun c3 => ?_) (fun c3 => ?_)
      · rw [zI_toInt (by omega) (by omega)] at c3
        omega
      · exact hn (Or.inr (fun q => by have := q.2.1; have := q.2.2.1; omega)) I2 hf hth htd
  · refine And.intro (fun c => ?_) (fun c => ?_)
    · exact hn (Or.inl s1) I2 hf hth htd
    · rw [zI_toInt (by omega) (by omega)] at c
      omega
set_option maxRecDepth 100000 in
theorem s_pathOf {Γ : AMG} {Q : QQ} {d : Nat} {x1 : Int32} {I : II} {Lg : LJ} {R : RR} {gc : Nat → Nat}
    (hy : ∀ r : Nat, r < 4 → x1 = zI r → (I 32 r 0).toInt ≠ 0 → Q (some (vR 7 r)) I Lg R (GM gc))
    (hn : ((x1.toInt < 0 ∨ 4 ≤ x1.toInt) ∨ ∃ r : Nat, r < 4 ∧ x1 = zI r ∧ (I 32 r 0).toInt = 0) → Q (some vN) I Lg R (GM gc)) : am_Sp Γ (d + 1) 0 0 mX11_pathOf [vR 11 0, vI x1] I Lg R (GM gc) Q := by
  refine am_run vX11_pathOf 60 _ rfl rfl rfl rfl ?_
  refine s_within (fun j1 j2 => ?_) (fun j1 => ?_)
  · rw [zI_toInt (by omega) (by omega)] at j1 j2
    have hx1 : x1 = zI x1.toInt.toNat := by rw [show ((x1.toInt.toNat : Nat) : Int) = x1.toInt by omega, zI_self]
    refine And.intro (fun c => ?_) (fun c => ?_)
    · refine And.intro ⟨by omega, by omega⟩ ?_
      refine And.intro (fun c2 => ?_) (fun c2 => ?_)
      · exact hy _ (by omega) hx1 c2
      · exact hn (Or.inr ⟨_, by omega, hx1, by omega⟩)
    · rw [zI_toInt (by omega) (by omega)] at c
      omega
  · rw [zI_toInt (by omega) (by omega), zI_toInt (by omega) (by omega)] at j1
    refine And.intro (fun c => ?_) (fun c => ?_)
    · rw [zI_toInt (by omega) (by omega)] at c
      omega
    · exact hn (Or.inl (by omega))
