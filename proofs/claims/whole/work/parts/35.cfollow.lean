/-! The class follows a ball. -/
abbrev fvars : List Nat := [19, 20, 21, 22, 102, 103, 104]
def VF (f q : Nat) : Nat → Nat → Bool := fun v i => V1 fvars f v i || V1 (0 :: bvars) q v i
theorem VF_f {f q v : Nat} (h : fvars.elem v = true) : VF f q v f = true := by unfold VF V1; rw [h]; simp
theorem VF_b {f q v : Nat} (h : (0 :: bvars).elem v = true) : VF f q v q = true := by unfold VF V1; rw [h]; simp
theorem VF_out {f q v i : Nat} (h : fvars.elem v = false) (h2 : (0 :: bvars).elem v = false) : VF f q v i = false := by unfold VF V1; rw [h, h2]; rfl
theorem FrI.toVF {I I' : II} {f q : Nat} {l : List Nat} (h : FrI (V1 l q) I I') (hl : l.all (fun v => (0 :: bvars).elem v) = true) : FrI (VF f q) I I' := h.mono (fun v i hv => V1_sub hl (by unfold VF at hv; exact (Bool.or_eq_false_iff.mp hv).2))
theorem FrI.toVFf {I I' : II} {f q : Nat} {l : List Nat} (h : FrI (V1 l f) I I') (hl : l.all (fun v => fvars.elem v) = true) : FrI (VF f q) I I' := h.mono (fun v i hv => V1_sub hl (by unfold VF at hv; exact (Bool.or_eq_false_iff.mp hv).1))
theorem BallAt.fr {I I' : II} {P : Nat → Nat → Bool} {q : Nat} {l : BL} (h : BallAt I q l) (hf : FrI P I I') (hP : ∀ v ∈ bvars, P v q = false) : BallAt I' q l := by
  obtain ⟨h1, h2, h3, h4, h5⟩ := h
  refine ⟨?_, ?_, ?_, ?_, ?_⟩ <;> rw [hf _ _ (hP _ (by decide))] <;> assumption
set_option maxRecDepth 100000 in
theorem s_hear {Γ : AMG} {Q : QQ} {d f : Nat} {xt xp xs : Int32} {t p s : Int} {I : II} {Lg : LJ} {R : RR} {gc : Nat → Nat} {ks : KS} (ht : xt = zI t) (hp : xp = zI p) (hs : xs = zI s) (hs0 : 0 ≤ s) (hs1 : s ≤ 1000) (hk : ks.length < 12) (hn : I 19 f 0 = zI ks.length) (hK : KAt I 102 103 104 f ks)
    (h : ∀ I' : II, FrI (V1 [19, 102, 103, 104] f) I I' → I' 19 f 0 = zI (if 0 < s then ks ++ [(t, p, s)] else ks).length → KAt I' 102 103 104 f (if 0 < s then ks ++ [(t, p, s)] else ks) → Q none I' Lg R (GM gc)) :
    am_Sp Γ d 0 0 mX4_hear [vR 4 f, vI xt, vI xp, vI xs] I Lg R (GM gc) Q := by
  have hst : xs.toInt = s := by rw [hs, zI_toInt (by omega) (by omega)]
  have hkn : (I 19 f 0).toInt = ks.length := by rw [hn, zI_toInt (by omega) (by omega)]
  refine am_runN vX4_hear 60 _ rfl rfl rfl rfl ?_
  refine And.intro (fun c => ?_) (fun c => ?_)
  · rw [hst] at c
    refine h I FrI.rf ?_ ?_
    · rw [if_neg (by omega)]; exact hn
    · rw [if_neg (by omega)]; exact hK
  · rw [hst] at c
    rw [if_pos (by omega)] at h
    refine And.intro (fun c2 => ?_) (fun c2 => ?_)
    · omega
    · refine And.intro (fun c3 => ?_) (fun c3 => ?_)
      · rw [hkn, zI_toInt (by omega) (by omega)] at c3
        omega
      · refine And.intro ⟨by omega, by omega⟩ ?_
        refine fun y1 ey1 I3 e3 => ?_
        have kn3 : I3 19 f 0 = I 19 f 0 := by rw [e3, up3_v _ (by decide)]
        refine And.intro ⟨by rw [kn3]; omega, by rw [kn3]; omega⟩ ?_
        refine fun y2 ey2 I4 e4 => ?_
        have kn4 : I4 19 f 0 = I 19 f 0 := by rw [e4, up3_v _ (by decide), kn3]
        refine And.intro ⟨by rw [kn4]; omega, by rw [kn4]; omega⟩ ?_
        refine fun y3 ey3 I5 e5 => ?_
        have kn5 : I5 19 f 0 = I 19 f 0 := by rw [e5, up3_v _ (by decide), kn4]
        refine fun y4 ey4 I6 e6 => ?_
        rw [kn3] at e4
        rw [kn4] at e5
        rw [kn5] at ey4
        rw [hkn, Int.toNat_natCast] at e3 e4 e5
        refine h I6 ?_ ?_ (hK.app (fun k => ?_) (fun k => ?_) (fun k => ?_))
        · rw [e6, e5, e4, e3]
          exact (((FrI.rf.up (V1_in rfl)).up (V1_in rfl)).up (V1_in rfl)).up (V1_in rfl)
        · rw [e6, up3_s, ey4, hn, zI_add, List.length_append]
          rfl
        · rw [e6, up3_v _ (by decide), e5, up3_v _ (by decide), e4, up3_v _ (by decide), e3, up3_a, ey1, ht]
          simp
        · rw [e6, up3_v _ (by decide), e5, up3_v _ (by decide), e4, up3_a, ey2, hp, e3, up3_v _ (by decide)]
          simp
        · rw [e6, up3_v _ (by decide), e5, up3_a, ey3, hs, e4, up3_v _ (by decide), e3, up3_v _ (by decide)]
          simp
def CFS (I : II) (f : Nat) (fa en jm : Int) (ks : KS) : Prop := I 22 f 0 = zI fa ∧ I 20 f 0 = zI en ∧ I 21 f 0 = zI jm ∧ I 19 f 0 = zI ks.length ∧ KAt I 102 103 104 f ks
theorem CFS.fr {I I' : II} {P : Nat → Nat → Bool} {f : Nat} {fa en jm : Int} {ks : KS} (h : CFS I f fa en jm ks) (hf : FrI P I I') (hP : ∀ v ∈ fvars, P v f = false) : CFS I' f fa en jm ks := by
  obtain ⟨h1, h2, h3, h4, h5⟩ := h
  exact ⟨by rw [hf _ _ (hP _ (by decide))]; exact h1, by rw [hf _ _ (hP _ (by decide))]; exact h2, by rw [hf _ _ (hP _ (by decide))]; exact h3, by rw [hf _ _ (hP _ (by decide))]; exact h4, h5.frl hf (hP _ (by decide)) (hP _ (by decide)) (hP _ (by decide))⟩
theorem spd_z {b : BD} {s : Int} (hb : BDok b) (h0 : 0 ≤ s) (h : spd b s = 0) : spd b 0 = 0 := by
  obtain ⟨-, -, -, -, h1, h2, -⟩ := hb
  have f0 : 0 ≤ fst9 b s := by unfold fst9; omega
  have e1 : fst9 b s * b.2.2.1 ≤ fst9 b s * 15 := Int.mul_le_mul_of_nonneg_left h2 f0
  have hz : fst9 b s = 0 := by unfold spd at h; omega
  have hz2 : fst9 b 0 = 0 := by unfold fst9 at hz ⊢; omega
  unfold spd
  rw [hz2]
  omega
