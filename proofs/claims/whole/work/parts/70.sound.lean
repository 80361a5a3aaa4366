/-! sound: the kept ones. -/
set_option maxRecDepth 100000 in
theorem s_soundAt {Γ : AMG} {Q : QQ} {d : Nat} {x1 x2 : Int32} {I : II} {Lg : LJ} {R : RR} {gc : Nat → Nat} {ks : KS} (hl : ks.length ≤ 300) (hK : KAt I 109 110 111 0 ks) (h0 : 0 ≤ x1.toInt) (h1 : x1.toInt < ks.length) (hw0 : 0 ≤ x2.toInt) (hw1 : x2.toInt ≤ 2)
    (h : Q (some (vI (zI (ksA ks x1.toInt x2.toInt)))) I Lg R (GM gc)) : am_Sp Γ d 0 0 mX6_soundAt [vR 6 0, vI x1, vI x2] I Lg R (GM gc) Q := by
  have he : ks[x1.toInt.toNat]? = some ks[x1.toInt.toNat] := List.getElem?_eq_getElem (by omega)
  generalize ks[x1.toInt.toNat] = e at he
  obtain ⟨q1, q2, q3⟩ := hK _ e he
  unfold ksA at h
  rw [he] at h
  dsimp only [Option.getD_some] at h
  refine am_run vX6_soundAt 60 _ rfl rfl rfl rfl ?_
  refine And.intro (fun c => ?_) (fun c => ?_)
  · omega
  refine And.intro (fun c2 => ?_) (fun c2 => ?_)
  · refine And.intro (fun c3 => ?_) (fun c3 => ?_)
    · rw [if_neg c3] at h
      refine And.intro (fun c4 => ?_) (fun c4 => ?_)
      · rw [zI_toInt (by omega) (by omega)] at c4
        rw [if_neg c4] at h
        refine And.intro ⟨by omega, by omega⟩ ?_
        rw [q3]
        exact h
      · rw [zI_toInt (by omega) (by omega)] at c4
        rw [if_pos (by omega)] at h
        refine And.intro ⟨by omega, by omega⟩ ?_
        rw [q2]
        exact h
    · rw [if_pos (by omega)] at h
      refine And.intro ⟨by omega, by omega⟩ ?_
      rw [q1]
      exact h
  · rw [zI_toInt (by omega) (by omega)] at c2
    omega
set_option maxRecDepth 100000 in
theorem s_msound {Γ : AMG} {Q : QQ} {d : Nat} {x1 x2 : Int32} {I : II} {Lg : LJ} {R : RR} {gc : Nat → Nat} {ks : KS} (hl : ks.length ≤ 300) (hn : I 74 0 0 = zI ks.length) (hK : KAt I 158 159 160 0 ks)
    (hno : ¬ (0 ≤ x1.toInt ∧ x1.toInt < ks.length ∧ 0 ≤ x2.toInt ∧ x2.toInt ≤ 2) → Q (some (vI (zI 0))) (up3 I 47 0 0 (zI 1)) Lg R (GM gc))
    (hy : 0 ≤ x1.toInt → x1.toInt < ks.length → 0 ≤ x2.toInt → x2.toInt ≤ 2 → Q (some (vI (zI (ksA ks x1.toInt x2.toInt)))) (up3 I 47 0 0 (zI 0)) Lg R (GM gc)) : am_Sp Γ (d + 1) 0 0 mX12_sound [vR 12 0, vI x1, vI x2] I Lg R (GM gc) Q := by
  have hkt : (I 74 0 0).toInt = ks.length := by rw [hn, zI_toInt (by omega) (by omega)]
  refine am_run vX12_sound 60 _ rfl rfl rfl rfl ?_
  refine And.intro (fun c => ?_) (fun c => ?_)
  · exact s_refuse (hno (by omega))
  refine And.intro (fun c2 => ?_) (fun c2 => ?_)
  · rw [hkt] at c2
    exact s_refuse (hno (by omega))
  rw [hkt] at c2
  refine And.intro (fun c3 => ?_) (fun c3 => ?_)
  · exact s_refuse (hno (by omega))
  refine And.intro (fun c4 => ?_) (fun c4 => ?_)
  · rw [zI_toInt (by omega) (by omega)] at c4
    have h := hy (by omega) c2 (by omega) c4
    have he : ks[x1.toInt.toNat]? = some ks[x1.toInt.toNat] := List.getElem?_eq_getElem (by omega)
    generalize ks[x1.toInt.toNat] = e at he
    obtain ⟨q1, q2, q3⟩ := hK _ e he
    unfold ksA at h
    rw [he] at h
    dsimp only [Option.getD_some] at h
    refine And.intro (fun c5 => ?_) (fun c5 => ?_)
    · rw [if_neg c5] at h
      refine And.intro (fun c6 => ?_) (fun c6 => ?_)
      · rw [zI_toInt (by omega) (by omega)] at c6
        rw [if_neg c6, ← q3] at h
        refine And.intro ⟨by omega, by omega⟩ ?_
        rw [up3_v _ (by decide)]
        exact h
      · rw [zI_toInt (by omega) (by omega)] at c6
        rw [if_pos (by omega), ← q2] at h
        refine And.intro ⟨by omega, by omega⟩ ?_
        rw [up3_v _ (by decide)]
        exact h
    · rw [if_pos (by omega), ← q1] at h
      refine And.intro ⟨by omega, by omega⟩ ?_
      rw [up3_v _ (by decide)]
      exact h
  · rw [zI_toInt (by omega) (by omega)] at c4
    exact s_refuse (hno (by omega))
