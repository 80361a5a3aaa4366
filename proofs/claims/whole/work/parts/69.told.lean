/-! told and the sounds that are kept. -/
/-- what a night told: let go, ended, bumps, all, loudness -/
abbrev NT : Type := Int32 × Int32 × Int32 × Int32 × Int32
def CNtAt (I : II) (t : NT) (ks : KS) : Prop := I 27 0 0 = t.1 ∧ I 28 0 0 = t.2.1 ∧ I 29 0 0 = t.2.2.1 ∧ I 25 0 0 = t.2.2.2.1 ∧ I 26 0 0 = t.2.2.2.2 ∧ I 24 0 0 = zI ks.length ∧ ks.length ≤ 300 ∧ KAt I 109 110 111 0 ks
def MNtAt (I : II) (t : NT) (ks : KS) : Prop := I 75 0 0 = t.1 ∧ I 76 0 0 = t.2.1 ∧ I 77 0 0 = t.2.2.1 ∧ I 78 0 0 = t.2.2.2.1 ∧ I 79 0 0 = t.2.2.2.2 ∧ I 74 0 0 = zI ks.length ∧ ks.length ≤ 300 ∧ KAt I 158 159 160 0 ks
def toldA (t : NT) (w : Int) : Int32 := if w = 0 then t.1 else if w = 1 then t.2.1 else if w = 2 then t.2.2.1 else if w = 3 then t.2.2.2.1 else if w = 4 then t.2.2.2.2 else zI (-1)
set_option maxRecDepth 100000 in
theorem s_told {Γ : AMG} {Q : QQ} {d : Nat} {x1 : Int32} {I : II} {Lg : LJ} {R : RR} {gc : Nat → Nat} {t : NT} {ks : KS} (hc : CNtAt I t ks) (h : Q (some (vI (toldA t x1.toInt))) I Lg R (GM gc)) : am_Sp Γ d 0 0 mX11_told [vR 11 0, vI x1] I Lg R (GM gc) Q := by
  obtain ⟨c1, c2, c3, c4, c5, -⟩ := hc
  unfold toldA at h
  refine am_run vX11_told 60 _ rfl rfl rfl rfl ?_
  refine And.intro (fun c => ?_) ⟨fun c => ?_, fun c => ?_, fun c => ?_, fun c => ?_, fun c => ?_, trivial⟩
  · rw [if_neg (by omega), if_neg (by omega), if_neg (by omega), if_neg (by omega), if_neg (by omega)] at h
    exact h
  · rw [if_pos (by omega), ← c1] at h
    exact h
  · rw [if_neg (by omega), if_pos (by omega), ← c2] at h
    exact h
  · rw [if_neg (by omega), if_neg (by omega), if_pos (by omega), ← c3] at h
    exact h
  · rw [if_neg (by omega), if_neg (by omega), if_neg (by omega), if_pos (by omega), ← c4] at h
    exact h
  · rw [if_neg (by omega), if_neg (by omega), if_neg (by omega), if_neg (by omega), if_pos (by omega), ← c5] at h
    exact h
set_option maxRecDepth 100000 in
theorem s_mtold {Γ : AMG} {Q : QQ} {d : Nat} {x1 : Int32} {I : II} {Lg : LJ} {R : RR} {gc : Nat → Nat} {t : NT} {ks : KS} (hc : MNtAt I t ks) (h : Q (some (vI (toldA t x1.toInt))) (up3 I 47 0 0 (zI 0)) Lg R (GM gc)) : am_Sp Γ d 0 0 mX12_told [vR 12 0, vI x1] I Lg R (GM gc) Q := by
  obtain ⟨c1, c2, c3, c4, c5, -⟩ := hc
  unfold toldA at h
  refine am_run vX12_told 60 _ rfl rfl rfl rfl ?_
  refine And.intro (fun c => ?_) ⟨fun c => ?_, fun c => ?_, fun c => ?_, fun c => ?_, fun c => ?_, trivial⟩
  · rw [if_neg (by omega), if_neg (by omega), if_neg (by omega), if_neg (by omega), if_neg (by omega)] at h
    exact h
  · rw [if_pos (by omega), ← c1] at h
    exact h
  · rw [if_neg (by omega), if_pos (by omega), ← c2] at h
    exact h
  · rw [if_neg (by omega), if_neg (by omega), if_pos (by omega), ← c3] at h
    exact h
  · rw [if_neg (by omega), if_neg (by omega), if_neg (by omega), if_pos (by omega), ← c4] at h
    exact h
  · rw [if_neg (by omega), if_neg (by omega), if_neg (by omega), if_neg (by omega), if_pos (by omega), ← c5] at h
    exact h
