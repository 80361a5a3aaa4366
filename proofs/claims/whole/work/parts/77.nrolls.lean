/-! The class's night: all balls roll. -/
def VRA : Nat → Nat → Bool := fun v i => V0 rlv v i || (blv.elem v && (Nat.ble 2 i && Nat.ble i 25))
theorem VRA_out {vs : List Nat} (h : vs.all (fun v => !rlv.elem v && !blv.elem v) = true) : ∀ v ∈ vs, ∀ i, VRA v i = false := by
  intro v hv i
  have h1 := List.all_eq_true.mp h v hv
  rw [Bool.and_eq_true, Bool.not_eq_true', Bool.not_eq_true'] at h1
  unfold VRA V0
  rw [h1.1, h1.2]
  rfl
theorem VRL_A {k : Nat} (hk : k < 24) {v i : Nat} (h : VRA v i = false) : VRL k v i = false := by
  unfold VRA at h
  unfold VRL
  obtain ⟨h1, h2⟩ := Bool.or_eq_false_iff.mp h
  rw [h1, Bool.false_or]
  unfold V1
  rcases Bool.and_eq_false_iff.mp h2 with h3 | h3
  · rw [h3]; rfl
  · have hne : i ≠ 2 + k := by
      intro q
      rw [q, Nat.ble_eq_true_of_le (by omega), Nat.ble_eq_true_of_le (by omega)] at h3
      cases h3
    rw [beq_eq_false_iff_ne.mpr hne, Bool.and_false]
theorem CBall.ne {I I' : II} {j n : Nat} {b : NB} (h : CBall I j b) (hf : FrI (VRL n) I I') (hne : j ≠ n) : CBall I' j b := by
  have hq : ∀ v ∈ blv, VRL n v (2 + j) = false := by
    intro v hv
    unfold VRL
    rw [V0_outI (l := rlv) (vs := blv) (by decide) v hv, Bool.false_or]
    unfold V1
    rw [beq_eq_false_iff_ne.mpr (by omega : 2 + j ≠ 2 + n), Bool.and_false]
  obtain ⟨h1, h2, h3, h4⟩ := h
  exact ⟨by rw [hf _ _ (hq _ (by decide))]; exact h1, by rw [hf _ _ (hq _ (by decide))]; exact h2, by rw [hf _ _ (hq _ (by decide))]; exact h3, by rw [hf _ _ (hq _ (by decide))]; exact h4⟩
theorem CAhd.ne {I I' : II} {j n : Nat} {o b : NB} (h : CAhd I j o b) (hf : FrI (VRL n) I I') (hne : j ≠ n) : CAhd I' j o b := by
  have hq : ∀ v ∈ blv, VRL n v (2 + j) = false := by
    intro v hv
    unfold VRL
    rw [V0_outI (l := rlv) (vs := blv) (by decide) v hv, Bool.false_or]
    unfold V1
    rw [beq_eq_false_iff_ne.mpr (by omega : 2 + j ≠ 2 + n), Bool.and_false]
  intro q
  obtain ⟨h1, h2⟩ := h q
  exact ⟨by rw [hf _ _ (hq _ (by decide))]; exact h1, by rw [hf _ _ (hq _ (by decide))]; exact h2⟩
/-- some have rolled, the others not yet -/
def CMid (I : II) (rn : Nat → RUN) (gs : Nat → Int32) (B : List NB) (n : Nat) : Prop := ∀ (j : Nat) (b : NB), B[j]? = some b → if j < n then CBall I j (stpB rn gs b) ∧ CAhd I j b (stpB rn gs b) else CBall I j b
theorem CMid.go {I I' : II} {rn : Nat → RUN} {gs : Nat → Int32} {B : List NB} {n : Nat} {b : NB} (h : CMid I rn gs B n) (hb : B[n]? = some b) (hf : FrI (VRL n) I I') (h1 : CBall I' n (stpB rn gs b)) (h2 : CAhd I' n b (stpB rn gs b)) : CMid I' rn gs B (n + 1) := by
  intro j x hj
  by_cases hjn : j = n
  · subst hjn
    rw [hb] at hj
    cases hj
    rw [if_pos (by omega)]
    exact ⟨h1, h2⟩
  · have := h j x hj
    by_cases hlt : j < n
    · rw [if_pos hlt] at this
      rw [if_pos (by omega)]
      exact ⟨this.1.ne hf hjn, this.2.ne hf hjn⟩
    · rw [if_neg hlt] at this
      rw [if_neg (by omega)]
      exact this.ne hf hjn
theorem rollAll_loop {Γ : AMG} {Q : QQ} {d : Nat} {I : II} {Lg : LJ} {R : RR} {gc : Nat → Nat} {rn : Nat → RUN} {gs : Nat → Int32} {B : List NB} {tk : Int} (hrn : RNSok rn) (hP : CRunsAt I R rn) (hB : ∀ b ∈ B, NBok rn b) (hl : B.length ≤ 24) (hlg : I 27 0 0 = zI B.length) (hg : ∀ r, r < 4 → I 112 0 r = gs r) (hnow : I 30 0 0 = zI tk) :
    ∀ (m n : Nat) (x2 : Int32) (l3 : Option AV) (S : NST) (I1 : II), n + m = B.length → x2 = zI n → FrI VRA I I1 → CNAt I1 S → CMid I1 rn gs B n → (I1 31 0 0 = zI 0 ∨ (I1 31 0 0 = zI 1 ∧ ∀ (j : Nat) (b : NB), j < n → B[j]? = some b → NBrest rn (stpB rn gs b))) →
      (∀ I' : II, FrI VRA I I' → CNAt I' (rollL rn gs tk (B.drop n) S) → CMid I' rn gs B B.length → (I' 31 0 0 = zI 0 ∨ (I' 31 0 0 = zI 1 ∧ ∀ (j : Nat) (b : NB), j < B.length → B[j]? = some b → NBrest rn (stpB rn gs b))) → Q none I' Lg R (GM gc)) →
      am_J Γ mX6_rollAll Q (d + 4) 0 0 7 [some (vR 6 0), some (vR 61 0), some (vI x2), l3] [] I1 Lg R (GM gc) := by
  intro m
  induction m with
  | zero =>
    intro n x2 l3 S I1 hm hx hf hS hM ht h
    have hlt : (I1 27 0 0).toInt = B.length := by rw [hf _ _ (VRA_out (vs := [27]) (by decide) _ (by decide) _), hlg, zI_toInt (by omega) (by omega)]
    rw [List.drop_of_length_le (by omega)] at h
    have hnB : n = B.length := by omega
    refine am_goN vX6_rollAll 60 ?_
    refine And.intro (fun c => ?_) (fun c => ?_)
    · exact h I1 hf hS (by rw [← hnB]; exact hM) (by rw [← hnB]; exact ht)
    · rw [hlt, hx, zI_toInt (by omega) (by omega)] at c
      omega
  | succ m ih =>
    intro n x2 l3 S I1 hm hx hf hS hM ht h
    have hlt : (I1 27 0 0).toInt = B.length := by rw [hf _ _ (VRA_out (vs := [27]) (by decide) _ (by decide) _), hlg, zI_toInt (by omega) (by omega)]
    have hn : n < B.length := by omega
    have he : B[n]? = some B[n] := List.getElem?_eq_getElem hn
    have hdr : B.drop n = B[n] :: B.drop (n + 1) := List.drop_eq_getElem_cons hn
    rw [hdr] at h
    have hok := hB B[n] (List.getElem_mem hn)
    generalize B[n] = b at he hdr h hok
    unfold rollL at h
    have hxt : x2.toInt = n := by rw [hx, zI_toInt (by omega) (by omega)]
    have hxn : x2.toInt.toNat = n := by rw [hxt]; omega
    have hcb := hM n b he
    rw [if_neg (by omega)] at hcb
    have hpl := hok.pl hrn
    obtain ⟨g1, g2, g3, g4, g5, g6, g7, g8⟩ := id hok
    have hpt : (I1 1 (2 + n) 0).toInt = b.2.1 := by rw [hcb.2.1, zI_toInt (by omega) (by omega)]
    have hrt : (I1 0 (2 + n) 0).toInt = b.1 := by rw [hcb.1, zI_toInt (by omega) (by omega)]
    -- behind the ball
    have k69 : ∀ (I2 : II) (l : Option AV), FrI (VRL n) I1 I2 → CNAt I2 (rollN rn gs tk b S) → CBall I2 n (stpB rn gs b) → CAhd I2 n b (stpB rn gs b) → I2 31 0 0 = (if (stpB rn gs b).2.1 = 255 ∨ (stpB rn gs b).2.2.2 = 0 then I1 31 0 0 else zI 0) →
        am_J Γ mX6_rollAll Q (d + 4) 0 0 69 [some (vR 6 0), some (vR 61 0), some (vI x2), l] [] I2 Lg R (GM gc) := by
      intro I2 l f2 s2 b2 a2 t2
      refine am_goN vX6_rollAll 2 ?_
      refine fun y ey => ?_
      refine ih (n + 1) y l (rollN rn gs tk b S) I2 (by omega) (by rw [ey, hx, zI_add]; congr 1) (hf.tr (f2.mono (fun v i q => VRL_A (by omega) q))) s2 (hM.go he f2 b2 a2) ?_ h
      rw [t2]
      split
      · next q =>
        rcases ht with ht | ⟨ht, ht2⟩
        · exact Or.inl ht
        · refine Or.inr ⟨ht, fun j x hj hx2 => ?_⟩
          by_cases hjn : j = n
          · subst hjn
            rw [he] at hx2
            cases hx2
            rcases q with q | q
            · exact Or.inl q
            · by_cases q2 : (stpB rn gs b).2.1 = 255
              · exact Or.inl q2
              · exact stp_zero hrn hok q2 q
          · exact ht2 j x (by omega) hx2
      · exact Or.inl rfl
    refine am_J.er [true, true, true, false] ?_
    refine am_goN vX6_rollAll (18) ?_
    refine And.intro (fun c => ?_) (fun c => ?_)
    · rw [hlt, hxt] at c
      omega
    refine And.intro (fun c => ?_) (fun c => ?_)
    · rw [hxt, zI_toInt (by omega) (by omega)] at c
      omega
    refine And.intro ⟨by omega, by omega⟩ ?_
    rw [hxn]
    refine And.intro (fun c => ?_) (fun c => ?_)
    · rw [hpt, zI_toInt (by omega) (by omega)] at c
      have e1 : stpB rn gs b = b := by unfold stpB; rw [if_pos c]
      have e2 : stpS rn gs b = 0 := by unfold stpS; rw [if_pos c]
      have e3 : rollN rn gs tk b S = S := by
        unfold rollN rollN1
        rw [e2, if_neg (fun q => q.1 c), if_neg (by omega)]
      refine k69 I1 _ FrI.rf (by rw [e3]; exact hS) (by rw [e1]; exact hcb) (fun q => absurd c (by rw [e1] at q; exact q)) ?_
      rw [e1, if_pos (Or.inl c)]
    · rw [hpt, zI_toInt (by omega) (by omega)] at c
      refine am_goN vX6_rollAll (15) ?_
      refine And.intro (fun c2 => ?_) (fun c2 => ?_)
      · rw [hrt] at c2
        omega
      refine And.intro (fun c3 => ?_) (fun c3 => ?_)
      · rw [hrt, zI_toInt (by omega) (by omega)] at c3
        omega
      refine And.intro ⟨by omega, by omega⟩ ?_
      rw [hrt]
      refine s_roll (k := n) (r := b.1.toNat) (b := b) (S := S) (tk := tk) (gs := gs) hrn (by omega) (by omega) ((hP _ (by omega)).fr hf (VRA_out (by decide))) hcb hok c ?_ ?_ hS (fun I2 f2 b2 a2 s2 t2 => ?_)
      · rw [hf _ _ (VRA_out (vs := [112]) (by decide) _ (by decide) _)]
        exact hg _ (by omega)
      · rw [hf _ _ (VRA_out (vs := [30]) (by decide) _ (by decide) _)]
        exact hnow
      · exact k69 I2 _ f2 s2 b2 a2 t2
set_option maxRecDepth 100000 in
theorem s_rollAll {Γ : AMG} {Q : QQ} {d : Nat} {I : II} {Lg : LJ} {R : RR} {gc : Nat → Nat} {rn : Nat → RUN} {gs : Nat → Int32} {B : List NB} {tk : Int} {S : NST} (hrn : RNSok rn) (hP : CRunsAt I R rn) (hB : ∀ b ∈ B, NBok rn b) (hl : B.length ≤ 24) (hlg : I 27 0 0 = zI B.length) (hg : ∀ r, r < 4 → I 112 0 r = gs r) (hnow : I 30 0 0 = zI tk) (hS : CNAt I S) (hb : ∀ (j : Nat) (b : NB), B[j]? = some b → CBall I j b)
    (h : ∀ I' : II, FrI VRA I I' → CNAt I' (rollL rn gs tk B S) → CMid I' rn gs B B.length → (I' 31 0 0 = zI 0 ∨ (I' 31 0 0 = zI 1 ∧ ∀ (j : Nat) (b : NB), j < B.length → B[j]? = some b → NBrest rn (stpB rn gs b))) → Q none I' Lg R (GM gc)) :
    am_Sp Γ (d + 4) 0 0 mX6_rollAll [vR 6 0, vR 61 0] I Lg R (GM gc) Q := by
  refine am_runN vX6_rollAll 60 _ rfl rfl rfl rfl ?_
  refine And.intro (Or.inr rfl) ?_
  refine fun y ey I1 e1 x2 ex2 => ?_
  have f1 : FrI (V0 [31]) I I1 := by rw [e1]; exact FrI.rf.up rfl
  have f1' : FrI VRA I I1 := f1.mono (fun v i q => V0_sub (l2 := rlv) (by decide) (by unfold VRA at q; exact (Bool.or_eq_false_iff.mp q).1))
  refine rollAll_loop hrn hP hB hl hlg hg hnow B.length 0 x2 _ S I1 (by omega) ex2 f1' (CNtAt.fr hS f1 (V0_out (by decide))) (fun j b hj => ?_) (Or.inr ⟨by rw [e1, up3_s, ey], fun j b hj => absurd hj (by omega)⟩) h
  rw [if_neg (by omega)]
  obtain ⟨h1, h2, h3, h4⟩ := hb j b hj
  exact ⟨by rw [f1 _ _ (V0_outI (vs := blv) (by decide) _ (by decide) _)]; exact h1, by rw [f1 _ _ (V0_outI (vs := blv) (by decide) _ (by decide) _)]; exact h2, by rw [f1 _ _ (V0_outI (vs := blv) (by decide) _ (by decide) _)]; exact h3, by rw [f1 _ _ (V0_outI (vs := blv) (by decide) _ (by decide) _)]; exact h4⟩
