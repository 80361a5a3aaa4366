/-! made in the class: a chain of columns passed on; pure. -/
def updF (f : Nat → Int) (k : Nat) (z : Int) : Nat → Int := fun j => if j = k then z else f j
theorem updF_s {f : Nat → Int} {k : Nat} {z : Int} : updF f k z k = z := if_pos rfl
theorem updF_n {f : Nat → Int} {k j : Nat} {z : Int} (h : j ≠ k) : updF f k z j = f j := if_neg h
def updN (f : Nat → Nat) (k z : Nat) : Nat → Nat := fun j => if j = k then z else f j
theorem updN_s {f : Nat → Nat} {k z : Nat} : updN f k z k = z := if_pos rfl
theorem updN_n {f : Nat → Nat} {k j z : Nat} (h : j ≠ k) : updN f k z j = f j := if_neg h
/-- all columns but k are given to rows, all rows of PR have one -/
def FLok (n : Nat) (PR PC Z : Nat → Prop) (T : Nat → Nat → Prop) (ro co : Nat → Int) (k : Nat) : Prop :=
  (∀ j, j < n → PC j → j ≠ k → (ro j = -1 ∧ Z j) ∨ ∃ r : Nat, ro j = r ∧ PR r ∧ co r = j ∧ T r j) ∧ ∀ r, PR r → ∃ j : Nat, j < n ∧ PC j ∧ j ≠ k ∧ co r = j ∧ ro j = r
def FLend (n f : Nat) (PR PC Z : Nat → Prop) (T : Nat → Nat → Prop) (ro co : Nat → Int) : Prop :=
  (∀ j, j < n → PC j → (ro j = -1 ∧ Z j) ∨ ∃ r : Nat, ro j = r ∧ (PR r ∨ r = f) ∧ co r = j ∧ T r j) ∧ ∀ r, PR r ∨ r = f → ∃ j : Nat, j < n ∧ PC j ∧ co r = j ∧ ro j = r
/-- the tree of the chains, as far as k -/
def FLtr (n f : Nat) (PC : Nat → Prop) (T : Nat → Nat → Prop) (ro fr : Nat → Int) (sn : Nat → Prop) (ρ : Nat → Nat) (k : Nat) : Prop :=
  ∀ j, sn j → ρ j ≤ ρ k → j < n ∧ PC j ∧ ((fr j = -1 ∧ T f j) ∨ ∃ m r : Nat, m < n ∧ fr j = m ∧ sn m ∧ ρ m < ρ j ∧ ro m = r ∧ T r j)
def FLout (PR PC : Nat → Prop) (f : Nat) (ro co ro' co' : Nat → Int) : Prop := (∀ j, ¬ PC j → ro' j = ro j) ∧ ∀ r, ¬ PR r → r ≠ f → co' r = co r
section FLIP
variable {n f k : Nat} {PR PC Z : Nat → Prop} {T : Nat → Nat → Prop} {ro co fr : Nat → Int} {sn : Nat → Prop} {ρ : Nat → Nat}
/-- a row comes from another column of the chain -/
theorem FLok.step (h : FLok n PR PC Z T ro co k) (ht : FLtr n f PC T ro fr sn ρ k) (hk : sn k) {m r : Nat} (hm : m < n) (hsm : sn m) (hρ : ρ m < ρ k) (hr : ro m = r) (hT : T r k) :
    PR r ∧ FLok n PR PC Z T (updF ro k r) (updF co r k) m ∧ FLtr n f PC T (updF ro k r) fr sn ρ m := by
  have hmk : m ≠ k := fun e => by rw [e] at hρ; omega
  obtain ⟨hkn, hkc, -⟩ := ht k hk (Nat.le_refl _)
  obtain ⟨hmn, hmc, -⟩ := ht m hsm (by omega)
  have hpr : PR r ∧ co r = m := by
    rcases h.1 m hm hmc hmk with ⟨e, -⟩ | ⟨r2, e1, e2, e3, -⟩
    · rw [hr] at e; omega
    · have : r2 = r := by rw [hr] at e1; omega
      rw [this] at e2 e3
      exact ⟨e2, e3⟩
  refine ⟨hpr.1, ⟨fun j hj hjc hjm => ?_, fun r2 hr2 => ?_⟩, fun j hsj hρj => ?_⟩
  · by_cases e : j = k
    · refine Or.inr ⟨r, ?_, hpr.1, ?_, ?_⟩
      · rw [e, updF_s]
      · rw [updF_s, e]
      · rw [e]; exact hT
    · rw [updF_n e]
      rcases h.1 j hj hjc e with h1 | ⟨r2, e1, e2, e3, e4⟩
      · exact Or.inl h1
      · have hne : r2 ≠ r := fun q => by rw [q, hpr.2] at e3; omega
        exact Or.inr ⟨r2, e1, e2, by rw [updF_n hne]; exact e3, e4⟩
  · by_cases e : r2 = r
    · refine ⟨k, hkn, hkc, fun q => hmk q.symm, ?_, ?_⟩
      · rw [e, updF_s]
      · rw [updF_s, e]
    · obtain ⟨j, h1, h2, h3, h4, h5⟩ := h.2 r2 hr2
      refine ⟨j, h1, h2, fun q => ?_, ?_, ?_⟩
      · rw [q, hr] at h5; omega
      · rw [updF_n e]; exact h4
      · rw [updF_n h3]; exact h5
  · obtain ⟨h1, h2, h3⟩ := ht j hsj (by omega)
    refine ⟨h1, h2, h3.imp id ?_⟩
    rintro ⟨m2, r2, g1, g2, g3, g4, g5, g6⟩
    have : m2 ≠ k := fun q => by rw [q] at g4; omega
    exact ⟨m2, r2, g1, g2, g3, g4, by rw [updF_n this]; exact g5, g6⟩
/-- the row is the one that had no column -/
theorem FLok.last (h : FLok n PR PC Z T ro co k) (hkn : k < n) (hkc : PC k) (hf : ¬ PR f) (hT : T f k) : FLend n f PR PC Z T (updF ro k f) (updF co f k) := by
  refine ⟨fun j hj hjc => ?_, fun r hr => ?_⟩
  · by_cases e : j = k
    · exact Or.inr ⟨f, by rw [e, updF_s], Or.inr rfl, by rw [updF_s, e], by rw [e]; exact hT⟩
    · rw [updF_n e]
      rcases h.1 j hj hjc e with h1 | ⟨r2, e1, e2, e3, e4⟩
      · exact Or.inl h1
      · have hne : r2 ≠ f := fun q => hf (by rw [← q]; exact e2)
        exact Or.inr ⟨r2, e1, Or.inl e2, by rw [updF_n hne]; exact e3, e4⟩
  · by_cases e : r = f
    · exact ⟨k, hkn, hkc, by rw [e, updF_s], by rw [updF_s, e]⟩
    · rcases hr with hr | hr
      · obtain ⟨j, h1, h2, h3, h4, h5⟩ := h.2 r hr
        exact ⟨j, h1, h2, by rw [updF_n e]; exact h4, by rw [updF_n h3]; exact h5⟩
      · exact absurd hr e
end FLIP
section CFLIP
variable {Γ : AMG} {Q : QQ} {d n : Nat} {I : II} {Lg : LJ} {R : RR} {gc : Nat → Nat} {ro co fr : Nat → Int}
set_option maxRecDepth 100000 in
theorem s_flip {f k : Nat} {x1 x2 : Int32} {PR PC Z : Nat → Prop} {T : Nat → Nat → Prop} {sn : Nat → Prop} {ρ : Nat → Nat} (hn : n ≤ 28) (hsd : I 18 0 0 = zI n) (hx1 : x1 = zI f) (hx2 : x2 = zI k) (hro : RA I 95 n ro) (hco : RA I 94 n co) (hfr : RA I 97 n fr)
    (hfn : f < n) (hPR : ∀ r, PR r → r < n) (hf : ¬ PR f) (hF : FLok n PR PC Z T ro co k) (hT : FLtr n f PC T ro fr sn ρ k) (hsk : sn k) (hρ : ρ k ≤ n)
    (h : ∀ (I' : II) (ro' co' : Nat → Int), FrI (V0 [95, 94]) I I' → RA I' 95 n ro' → RA I' 94 n co' → FLend n f PR PC Z T ro' co' → FLout PR PC f ro co ro' co' → Q none I' Lg R (GM gc)) :
    am_Sp Γ (d + 1) 0 0 mX3_flip [vR 3 0, vI x1, vI x2] I Lg R (GM gc) Q := by
  refine am_runN vX3_flip 4 _ rfl rfl rfl rfl ?_
  refine fun x3 e3 x4 e4 => ?_
  have loop : ∀ (m i k : Nat) (x3 x4 : Int32) (l5 l6 : Option AV) (I1 : II) (ro1 co1 : Nat → Int), i + m = n → x3 = zI k → x4 = zI i → FrI (V0 [95, 94]) I I1 → RA I1 95 n ro1 → RA I1 94 n co1 → FLok n PR PC Z T ro1 co1 k → FLtr n f PC T ro1 fr sn ρ k → sn k → ρ k + i ≤ n → FLout PR PC f ro co ro1 co1 →
      am_J Γ mX3_flip Q (d + 1) 0 0 5 [some (vR 3 0), some (vI x1), some (vI x2), some (vI x3), some (vI x4), l5, l6] [] I1 Lg R (GM gc) := by
    intro m
    induction m using Nat.strongRecOn with
    | ind m ih =>
    intro i k x3 x4 l5 l6 I1 ro1 co1 him hx3 hx4 f1 r1 c1 hF1 hT1 hs1 hρ1 hO1
    obtain ⟨hkn, hkc, hsrc⟩ := hT1 k hs1 (Nat.le_refl _)
    have h3t : x3.toInt = k := by rw [hx3, zI_toInt (by omega) (by omega)]
    have h4t : x4.toInt = i := by rw [hx4, zI_toInt (by omega) (by omega)]
    have v1 : I1 97 0 k = zI (fr k) := by rw [f1 97 _ rfl]; exact hfr k hkn
    have v2 : I1 18 0 0 = zI n := by rw [f1 18 _ rfl]; exact hsd
    -- behind the choice of the row
    have put : ∀ (y5 : Int32) (y6 : Int32) (r : Nat) (ro2 co2 : Nat → Int), y6 = zI r → r < n → ro2 = updF ro1 k r → co2 = updF co1 r k →
        (∀ (I2 : II) (y4 : Int32), y4 = zI (i + 1 : Nat) → FrI (V0 [95, 94]) I I2 → RA I2 95 n ro2 → RA I2 94 n co2 → am_J Γ mX3_flip Q (d + 1) 0 0 5 [some (vR 3 0), some (vI x1), some (vI x2), some (vI y5), some (vI y4), some (vI y5), some (vI y6)] [] I2 Lg R (GM gc)) →
        am_J Γ mX3_flip Q (d + 1) 0 0 57 [some (vR 3 0), some (vI x1), some (vI x2), some (vI x3), some (vI x4), some (vI y5), some (vI y6)] [] I1 Lg R (GM gc) := by
      intro y5 y6 r ro2 co2 hy6 hr hro2 hco2 hk
      have h6t : y6.toInt = r := by rw [hy6, zI_toInt (by omega) (by omega)]
      refine am_goN vX3_flip 2 ?_
      refine And.intro (fun z => ?_) (fun _ => ?_)
      · omega
      refine am_goN vX3_flip 3 ?_
      refine And.intro (fun z => ?_) (fun _ => ?_)
      · rw [h6t, zI_toInt (by omega) (by omega)] at z
        omega
      refine am_goN vX3_flip 14 ?_
      refine And.intro ⟨by omega, by omega⟩ ?_
      refine fun y7 ey7 I2 e2 => ?_
      refine And.intro ⟨by omega, by omega⟩ ?_
      refine fun y8 ey8 I3 e3 => ?_
      refine fun y9 ey9 y10 ey10 => ?_
      rw [h3t, Int.toNat_natCast] at e2
      rw [h6t, Int.toNat_natCast] at e3
      have g2 : FrI (V0 [95]) I1 I2 := by rw [e2]; exact FrI.rf.up rfl
      have g3 : FrI (V0 [94]) I2 I3 := by rw [e3]; exact FrI.rf.up rfl
      rw [ey9]
      refine hk I3 y10 (by rw [ey10, hx4, zI_add]; congr 1) (by rw [e3, e2]; exact (f1.up rfl).up rfl) ?_ ?_
      · rw [hro2]
        exact (r1.up e2 (by rw [ey7, hy6])).fr g3 rfl
      · rw [hco2]
        exact (c1.fr g2 rfl).up e3 (by rw [ey8, hx3])
    refine am_goN vX3_flip 4 ?_
    refine And.intro (fun z => ?_) (fun _ => ?_)
    · rw [h4t, v2, zI_toInt (by omega) (by omega)] at z
      omega
    refine am_goN vX3_flip 2 ?_
    refine And.intro (fun z => ?_) (fun _ => ?_)
    · omega
    refine am_goN vX3_flip 3 ?_
    refine And.intro (fun z => ?_) (fun _ => ?_)
    · rw [h3t, zI_toInt (by omega) (by omega)] at z
      omega
    refine am_goN vX3_flip 7 ?_
    refine And.intro ⟨by omega, by omega⟩ ?_
    refine fun y5 ey5 => ?_
    have ey5 : y5 = zI (fr k) := by rw [ey5, h3t, Int.toNat_natCast, v1]
    rcases hsrc with ⟨hm1, hTf⟩ | ⟨m2, r2, hm2, hfm, hsm, hρm, hrm, hTr⟩
    · have h5t : y5.toInt = -1 := by rw [ey5, hm1, zI_toInt (by omega) (by omega)]
      refine And.intro (fun _ => ?_) (fun z => ?_)
      · refine am_goN vX3_flip 2 ?_
        refine fun y6 ey6 => ?_
        refine put y5 y6 f _ _ (by rw [ey6, hx1]) hfn rfl rfl (fun I2 y4 ey4 f2 r2 c2 => ?_)
        have h4t : y4.toInt = i + 1 := by rw [ey4, zI_toInt (by omega) (by omega)]; omega
        have end_ : Q none I2 Lg R (GM gc) := h I2 _ _ f2 r2 c2 (hF1.last hkn hkc hf hTf) ⟨fun j hj => by
          rw [updF_n (fun q => hj (by rw [q]; exact hkc))]
          exact hO1.1 j hj, fun r hr hrf => by
          rw [updF_n hrf]
          exact hO1.2 r hr hrf⟩
        refine am_goN vX3_flip 4 ?_
        refine And.intro (fun z => ?_) (fun _ => ?_)
        · refine am_goN vX3_flip 5 ?_
          exact end_
        refine am_goN vX3_flip 2 ?_
        refine And.intro (fun z => ?_) (fun z => ?_)
        · refine am_goN vX3_flip 5 ?_
          exact end_
        · omega
      · omega
    · have h5t : y5.toInt = m2 := by rw [ey5, hfm, zI_toInt (by omega) (by omega)]
      obtain ⟨hpr, hF2, hT2⟩ := hF1.step hT1 hs1 hm2 hsm hρm hrm hTr
      refine And.intro (fun z => ?_) (fun _ => ?_)
      · omega
      refine am_goN vX3_flip 3 ?_
      refine And.intro (fun z => ?_) (fun _ => ?_)
      · rw [h5t, zI_toInt (by omega) (by omega)] at z
        omega
      refine am_goN vX3_flip (5 + 1) ?_
      refine And.intro ⟨by omega, by omega⟩ ?_
      refine fun y6 ey6 => ?_
      refine put y5 y6 r2 _ _ (by rw [ey6, h5t, Int.toNat_natCast, r1 m2 hm2, hrm]) (hPR _ hpr) rfl rfl (fun I2 y4 ey4 f2 r2' c2 => ?_)
      exact ih (m - 1) (by omega) (i + 1) m2 y5 y4 _ _ I2 _ _ (by omega) (by rw [ey5, hfm]) ey4 f2 r2' c2 hF2 hT2 hsm (by omega) ⟨fun j hj => by
          rw [updF_n (fun q => hj (by rw [q]; exact hkc))]
          exact hO1.1 j hj, fun r hr hrf => by
          rw [updF_n (fun q => hr (by rw [q]; exact hpr))]
          exact hO1.2 r hr hrf⟩
  exact loop n 0 k x3 x4 _ _ I ro co (by omega) (by rw [e3, hx2]) e4 FrI.rf hro hco hF hT hsk (by omega) ⟨fun _ _ => rfl, fun _ _ _ => rfl⟩
end CFLIP
