/-! The carpenter passes a board. -/
theorem rolE_ok {b : BD} (hb : BDok b) : ∀ (f : Nat) (t p s t' p' s' : Int), 0 ≤ p → p < b.1 → rolE b f t p s = some (t', p', s') → t < t' ∧ t' ≤ t + f ∧ b.1 ≤ p' ∧ p' ≤ b.1 + 1023 ∧ 0 ≤ s' ∧ s' ≤ 1023
  | 0, _, _, _, _, _, _, _, _, h => by cases h
  | f + 1, t, p, s, t', p', s', h0, hp, h => by
    have hs := spd_rng (s := s) hb
    unfold rolE at h
    by_cases q : b.1 ≤ p + spd b s
    · rw [if_pos q] at h
      cases h
      omega
    · rw [if_neg q] at h
      have := rolE_ok hb f (t + 1) _ _ _ _ _ (by omega) (by omega) h
      omega
/-- the texts of TICKS on the tape -/
def TKAt (I : II) (nW : Nat) (W : Nat → Int) : Prop := I 40 0 0 = zI nW ∧ nW ≤ 10 ∧ (∀ k, k < nW → I 124 0 k = zI (W k)) ∧ ∀ k, 0 ≤ W k ∧ W k ≤ 65535
theorem TKAt.fr {I I' : II} {Pr : Nat → Nat → Bool} {nW : Nat} {W : Nat → Int} (h : TKAt I nW W) (hf : FrI Pr I I') (h1 : Pr 40 0 = false) (h2 : Pr 124 0 = false) : TKAt I' nW W := ⟨by rw [hf _ _ h1]; exact h.1, h.2.1, fun k hk => by rw [hf _ _ h2]; exact h.2.2.1 k hk, h.2.2.2⟩
set_option maxRecDepth 100000 in
theorem s_tickAt {Γ : AMG} {Q : QQ} {d : Nat} {x1 : Int32} {k : Int} {I : II} {Lg : LJ} {R : RR} {gc : Nat → Nat} {nW : Nat} {W : Nat → Int} (hT : TKAt I nW W) (hx1 : x1 = zI k) (hk : 0 ≤ k ∧ k ≤ 1000)
    (h : Q (some (vI (zI (if k < nW then W k.toNat else -1)))) I Lg R (GM gc)) : am_Sp Γ d 0 0 mX10_tickAt [vR 10 0, vI x1] I Lg R (GM gc) Q := by
  obtain ⟨t1, t2, t3, t4⟩ := hT
  have h1 : x1.toInt = k := by rw [hx1, zI_toInt (by omega) (by omega)]
  have htc : (I 40 0 0).toInt = nW := by rw [t1, zI_toInt (by omega) (by omega)]
  refine am_runN vX10_tickAt 3 _ rfl rfl rfl rfl ?_
  refine And.intro (fun c => ?_) (fun c => ?_)
  · omega
  refine am_goN vX10_tickAt 4 ?_
  refine And.intro (fun c => ?_) (fun c => ?_)
  · rw [h1, htc] at c
    rw [if_neg (by omega)] at h
    refine am_goN vX10_tickAt 5 ?_
    exact h
  · rw [h1, htc] at c
    rw [if_pos (by omega)] at h
    refine am_goN vX10_tickAt 3 ?_
    refine And.intro (fun c2 => ?_) (fun c2 => ?_)
    · rw [h1, zI_toInt (by omega) (by omega)] at c2
      omega
    refine am_goN vX10_tickAt 20 ?_
    refine And.intro ⟨by omega, by omega⟩ ?_
    rw [h1, ← t3 k.toNat (by omega)] at *
    exact h
/-- a row that may be -/
def CRok (w : CRW) : Prop := (0 ≤ w.1 ∧ w.1 ≤ 2000) ∧ (0 ≤ w.2.2.1 ∧ w.2.2.1 ≤ 100000) ∧ (0 ≤ w.2.2.2.1 ∧ w.2.2.2.1 ≤ 1023) ∧ (0 ≤ w.2.2.2.2.1 ∧ w.2.2.2.2.1 ≤ 100) ∧ (0 ≤ w.2.2.2.2.2 ∧ w.2.2.2.2.2 ≤ 10000000)
/-- the carpenter's ball, and one row -/
def FrB (k : Nat) (I I' : II) : Prop := ∀ v i j, (crw6.elem v = false ∨ j ≠ k) → (bvars.elem v = false ∨ i ≠ 26) → I' v i j = I v i j
theorem FrB.rf {k : Nat} {I : II} : FrB k I I := fun _ _ _ _ _ => rfl
theorem FrB.tr {k : Nat} {I I1 I2 : II} (h : FrB k I I1) (h2 : FrB k I1 I2) : FrB k I I2 := fun v i j p q => (h2 v i j p q).trans (h v i j p q)
theorem FrK.b {l : List Nat} {k : Nat} {I I' : II} (h : FrK l k I I') (hl : l.all (fun v => crw6.elem v) = true) : FrB k I I' := fun v i j p _ => (h.sub hl) v i j p
theorem FrI.b {l : List Nat} {k : Nat} {I I' : II} (h : FrI (V1 l 26) I I') (hl : l.all (fun v => bvars.elem v) = true) : FrB k I I' := fun v i j _ q => by
  have : V1 l 26 v i = false := by
    unfold V1
    rcases q with q | q
    · rw [show l.elem v = false from V0_sub (l := l) (l2 := bvars) (i := i) hl q]
      rfl
    · rw [beq_eq_false_iff_ne.mpr q, Bool.and_false]
  rw [h v i this]
theorem FrB.fr {k : Nat} {I I' : II} (h : FrB k I I') : FrI (fun v i => V0 crw6 v i || V1 bvars 26 v i) I I' := fun v i hv => by
  funext j
  obtain ⟨q1, q2⟩ := Bool.or_eq_false_iff.mp hv
  refine h v i j (Or.inl q1) ?_
  unfold V1 at q2
  rcases Bool.and_eq_false_iff.mp q2 with q | q
  · exact Or.inl q
  · exact Or.inr (beq_eq_false_iff_ne.mp q)
theorem FrB.row {k k2 : Nat} {I I' : II} {w : CRW} (h : FrB k I I') (hne : k2 ≠ k) (hw : CRAt I k2 w) : CRAt I' k2 w := by
  obtain ⟨w1, w2, w3, w4, w5, w6⟩ := hw
  refine ⟨?_, ?_, ?_, ?_, ?_, ?_⟩ <;> rw [h _ _ _ (Or.inr hne) (Or.inl rfl)] <;> assumption
theorem lay1_ok {b : BD} {nW : Nat} {W : Nat → Int} {w w' : CRW} (hb : BDok b) (hW : ∀ k, 0 ≤ W k ∧ W k ≤ 65535) (hw : CRok w) (h : lay1 b nW W w = some w') : (0 ≤ w'.1 ∧ w'.1 ≤ 2000) ∧ (0 ≤ w'.2.2.1 ∧ w'.2.2.1 ≤ 100000) ∧ (0 ≤ w'.2.2.2.1 ∧ w'.2.2.2.1 ≤ 1023) ∧ (w.2.2.2.2.1 ≤ w'.2.2.2.2.1 ∧ w'.2.2.2.2.1 ≤ w.2.2.2.2.1 + 1) ∧ (w.2.2.2.2.2 ≤ w'.2.2.2.2.2 ∧ w'.2.2.2.2.2 ≤ w.2.2.2.2.2 + 65535) := by
  obtain ⟨⟨a1, a2⟩, ⟨a3, a4⟩, ⟨a5, a6⟩, ⟨a7, a8⟩, a9, a10⟩ := hw
  unfold lay1 at h
  have g1 := hb.1
  by_cases q : b.1 ≤ w.2.2.1
  · rw [if_pos q] at h
    cases h
    refine ⟨⟨a1, a2⟩, ⟨?_, ?_⟩, ⟨a5, a6⟩, ⟨Int.le_refl _, ?_⟩, Int.le_refl _, ?_⟩
    · show 0 ≤ w.2.2.1 - b.1; omega
    · show w.2.2.1 - b.1 ≤ 100000; omega
    · show w.2.2.2.2.1 ≤ w.2.2.2.2.1 + 1; omega
    · show w.2.2.2.2.2 ≤ w.2.2.2.2.2 + 65535; omega
  · rw [if_neg q] at h
    cases hr : rolE b (2000 - w.1).toNat w.1 w.2.2.1 w.2.2.2.1 with
    | none => rw [hr] at h; cases h
    | some x =>
      obtain ⟨t, p, s⟩ := x
      rw [hr] at h
      dsimp only at h
      obtain ⟨r1, r2, r3, r4, r5, r6⟩ := rolE_ok hb _ _ _ _ _ _ _ a3 (by omega) hr
      have hl := lvS_rng hb r5
      obtain ⟨-, -, -, -, -, -, d1, d2, -⟩ := hb
      have hd := dr_rng d1 d2 hl.1 (by omega : lvS b s ≤ 1023)
      have hp : 0 ≤ lvP b b.2.2.2.1 p s ∧ lvP b b.2.2.2.1 p s ≤ 100000 := by unfold lvP; omega
      have hWk := hW w.2.2.2.2.1.toNat
      by_cases z : 0 < lvK b.2.2.2.1 s
      · rw [if_pos z] at h
        cases h
        refine ⟨⟨?_, ?_⟩, hp, ⟨hl.1, ?_⟩, ⟨?_, Int.le_refl _⟩, ?_⟩
        · show 0 ≤ t; omega
        · show t ≤ 2000; omega
        · show lvS b s ≤ 1023; omega
        · show w.2.2.2.2.1 ≤ w.2.2.2.2.1 + 1; omega
        · show w.2.2.2.2.2 ≤ w.2.2.2.2.2 + (if w.2.2.2.2.1 < nW then ((t - W w.2.2.2.2.1.toNat).natAbs : Int) else 100) ∧ w.2.2.2.2.2 + (if w.2.2.2.2.1 < nW then ((t - W w.2.2.2.2.1.toNat).natAbs : Int) else 100) ≤ w.2.2.2.2.2 + 65535
          split <;> omega
      · rw [if_neg z] at h
        cases h
        refine ⟨⟨?_, ?_⟩, hp, ⟨hl.1, ?_⟩, ⟨Int.le_refl _, ?_⟩, Int.le_refl _, ?_⟩
        · show 0 ≤ t; omega
        · show t ≤ 2000; omega
        · show lvS b s ≤ 1023; omega
        · show w.2.2.2.2.1 ≤ w.2.2.2.2.1 + 1; omega
        · show w.2.2.2.2.2 ≤ w.2.2.2.2.2 + 65535; omega
