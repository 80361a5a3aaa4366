/-! made in the class: nearest, lower. -/
section CLOW
variable {Γ : AMG} {Q : QQ} {d n : Nat} {I : II} {Lg : LJ} {R : RR} {gc : Nat → Nat} {c : Nat → Nat → Int} {p q rof cof sl fr sn : Nat → Int}
set_option maxRecDepth 100000 in
theorem s_nearest (hn : n ≤ 28) (hsd : I 18 0 0 = zI n) (hs : RA I 98 n sn) (hsb : ∀ j, sn j = 0 ∨ sn j = 1) (hsl : RA I 96 n sl) (hslb : smallF n sl) (hex : ∃ b, b < n ∧ sn b = 0)
    (h : ∀ b, b < n → sn b = 0 → (∀ j, j < n → sn j = 0 → sl b ≤ sl j) → Q (some (vI (zI b))) I Lg R (GM gc)) :
    am_Sp Γ (d + 1) 0 0 mX3_nearest [vR 3 0] I Lg R (GM gc) Q := by
  refine am_run vX3_nearest 4 _ rfl rfl rfl rfl ?_
  have loop : ∀ (m j : Nat) (x1 x2 : Int32), j + m = n → x2 = zI j → ((x1 = zI (-1) ∧ ∀ i, i < j → sn i ≠ 0) ∨ ∃ b, b < j ∧ x1 = zI b ∧ sn b = 0 ∧ ∀ i, i < j → sn i = 0 → sl b ≤ sl i) →
      am_J Γ mX3_nearest Q (d + 1) 0 0 4 [some (vR 3 0), some (vI x1), some (vI x2)] [] I Lg R (GM gc) := by
    intro m
    induction m with
    | zero =>
      intro j x1 x2 hj hx2 hb
      have ej : j = n := by omega
      subst ej
      have ht : x2.toInt = j := by rw [hx2, zI_toInt (by omega) (by omega)]
      refine am_go vX3_nearest 20 ?_
      refine And.intro (fun _ => ?_) (fun z => ?_)
      · rcases hb with ⟨_, hb⟩ | ⟨b, h1, h2, h3, h4⟩
        · obtain ⟨b, h1, h2⟩ := hex
          exact absurd h2 (hb b h1)
        · rw [h2]
          exact h b h1 h3 h4
      · rw [ht, hsd, zI_toInt (by omega) (by omega)] at z
        omega
    | succ m ih =>
      intro j x1 x2 hj hx2 hb
      have ht : x2.toInt = j := by rw [hx2, zI_toInt (by omega) (by omega)]
      have hjn : j < n := by omega
      have v4 := hs j hjn
      have v5 := hsl j hjn
      have b3 := hslb j hjn
      have hs01 := hsb j
      have next : ∀ (x1 : Int32), ((x1 = zI (-1) ∧ ∀ i, i < j + 1 → sn i ≠ 0) ∨ ∃ b, b < j + 1 ∧ x1 = zI b ∧ sn b = 0 ∧ ∀ i, i < j + 1 → sn i = 0 → sl b ≤ sl i) → am_J Γ mX3_nearest Q (d + 1) 0 0 43 [some (vR 3 0), some (vI x1), some (vI x2)] [] I Lg R (GM gc) := by
        intro x1 hb
        refine am_goN vX3_nearest 20 ?_
        refine fun y ey => ?_
        exact ih (j + 1) x1 y (by omega) (by rw [ey, hx2, zI_add]; congr 1) hb
      have take : sn j = 0 → (∀ i, i < j → sn i = 0 → sl j ≤ sl i) → am_J Γ mX3_nearest Q (d + 1) 0 0 41 [some (vR 3 0), some (vI x1), some (vI x2)] [] I Lg R (GM gc) := by
        intro h0 hmin
        refine am_goN vX3_nearest 2 ?_
        refine fun y ey => ?_
        refine next y (Or.inr ⟨j, by omega, by rw [ey, hx2], h0, fun i hi hi0 => ?_⟩)
        by_cases e : i = j
        · rw [e]; exact Int.le_refl _
        · exact hmin i (by omega) hi0
      refine am_goN vX3_nearest 4 ?_
      refine And.intro (fun z => ?_) (fun _ => ?_)
      · rw [ht, hsd, zI_toInt (by omega) (by omega)] at z
        omega
      refine am_goN vX3_nearest 5 ?_
      refine And.intro ⟨by omega, by omega⟩ ?_
      refine And.intro (fun z => ?_) (fun z => ?_)
      · rw [ht, Int.toNat_natCast, v4, zI_toInt (by omega) (by omega)] at z
        refine next x1 ?_
        rcases hb with ⟨h1, h2⟩ | ⟨b, h1, h2, h3, h4⟩
        · refine Or.inl ⟨h1, fun i hi => ?_⟩
          by_cases e : i = j
          · rw [e]; exact z
          · exact h2 i (by omega)
        · refine Or.inr ⟨b, by omega, h2, h3, fun i hi hi0 => ?_⟩
          by_cases e : i = j
          · rw [e] at hi0; exact absurd hi0 z
          · exact h4 i (by omega) hi0
      · rw [ht, Int.toNat_natCast, v4, zI_toInt (by omega) (by omega)] at z
        refine am_goN vX3_nearest 3 ?_
        refine And.intro (fun z2 => ?_) (fun z2 => ?_)
        · refine take z (fun i hi hi0 => ?_)
          rcases hb with ⟨h1, h2⟩ | ⟨b, h1, h2, h3, h4⟩
          · exact absurd hi0 (h2 i hi)
          · rw [h2, zI_toInt (by omega) (by omega), zI_toInt (by omega) (by omega)] at z2
            omega
        · rcases hb with ⟨h1, h2⟩ | ⟨b, h1, h2, h3, h4⟩
          · exact absurd (by rw [h1]) z2
          have v6 := hsl b (by omega)
          have b6 := hslb b (by omega)
          have h2t : x1.toInt = b := by rw [h2, zI_toInt (by omega) (by omega)]
          refine am_goN vX3_nearest 9 ?_
          refine And.intro ⟨by omega, by omega⟩ ?_
          refine And.intro ⟨by omega, by omega⟩ ?_
          refine And.intro (fun z3 => ?_) (fun z3 => ?_)
          · rw [ht, h2t, Int.toNat_natCast, Int.toNat_natCast, v5, v6, zI_toInt (by omega) (by omega), zI_toInt (by omega) (by omega)] at z3
            refine next x1 (Or.inr ⟨b, by omega, h2, h3, fun i hi hi0 => ?_⟩)
            by_cases e : i = j
            · rw [e]; omega
            · exact h4 i (by omega) hi0
          · rw [ht, h2t, Int.toNat_natCast, Int.toNat_natCast, v5, v6, zI_toInt (by omega) (by omega), zI_toInt (by omega) (by omega)] at z3
            exact take z (fun i hi hi0 => by have := h4 i hi hi0; omega)
  exact loop n 0 _ _ (by omega) rfl (Or.inl ⟨rfl, fun i hi => absurd hi (Nat.not_lt_zero _)⟩)
/-- the rows that were reached -/
def hitR (sn rof : Nat → Int) (first j r : Nat) : Bool := Nat.beq r first || (List.range j).any (fun i => decide (sn i ≠ 0) && decide (rof i = r))
theorem hitR_iff {sn rof : Nat → Int} {first j r : Nat} : hitR sn rof first j r = true ↔ r = first ∨ ∃ i, i < j ∧ sn i ≠ 0 ∧ rof i = r := by
  unfold hitR
  simp only [Bool.or_eq_true, List.any_eq_true, List.mem_range, Bool.and_eq_true, decide_eq_true_eq]
  constructor
  · rintro (h | ⟨i, h1, h2, h3⟩)
    · exact Or.inl (Nat.eq_of_beq_eq_true h)
    · exact Or.inr ⟨i, h1, h2, h3⟩
  · rintro (h | ⟨i, h1, h2, h3⟩)
    · exact Or.inl (by rw [h]; exact Nat.beq_refl _)
    · exact Or.inr ⟨i, h1, h2, h3⟩
def lowP (p sn rof : Nat → Int) (first : Nat) (z : Int) (j : Nat) : Nat → Int := fun r => if hitR sn rof first j r then p r + z else p r
def lowQ (q sn : Nat → Int) (z : Int) : Nat → Int := fun j => if sn j = 0 then q j else q j - z
def lowS (sl sn : Nat → Int) (z : Int) : Nat → Int := fun j => if sn j = 0 then sl j - z else sl j
theorem lowP_hit {p sn rof : Nat → Int} {first j r : Nat} {z : Int} (h : r = first ∨ ∃ i, i < j ∧ sn i ≠ 0 ∧ rof i = r) : lowP p sn rof first z j r = p r + z := if_pos (hitR_iff.mpr h)
theorem lowP_no {p sn rof : Nat → Int} {first j r : Nat} {z : Int} (h : ¬ (r = first ∨ ∃ i, i < j ∧ sn i ≠ 0 ∧ rof i = r)) : lowP p sn rof first z j r = p r := if_neg (fun q => h (hitR_iff.mp q))
abbrev lwv : List Nat := [92, 93, 96]
set_option maxRecDepth 100000 in
theorem s_lower {first : Nat} {z : Int} {x1 x2 : Int32} (hn : n ≤ 28) (hsd : I 18 0 0 = zI n) (hfn : first < n) (hx1 : x1 = zI first) (hx2 : x2 = zI z) (hs : RA I 98 n sn) (hsb : ∀ j, sn j = 0 ∨ sn j = 1) (hp : RA I 92 n p) (hq : RA I 93 n q) (hsl : RA I 96 n sl) (hro : RA I 95 n rof)
    (hrof : ∀ j, j < n → sn j ≠ 0 → ∃ r, r < n ∧ rof j = r ∧ r ≠ first) (hinj : ∀ i j, i < n → j < n → sn i ≠ 0 → sn j ≠ 0 → rof i = rof j → i = j)
    (h : ∀ I' : II, FrI (V0 lwv) I I' → RA I' 92 n (lowP p sn rof first z n) → RA I' 93 n (lowQ q sn z) → RA I' 96 n (lowS sl sn z) → Q none I' Lg R (GM gc)) :
    am_Sp Γ (d + 1) 0 0 mX3_lower [vR 3 0, vI x1, vI x2] I Lg R (GM gc) Q := by
  have h1t : x1.toInt = first := by rw [hx1, zI_toInt (by omega) (by omega)]
  refine am_runN vX3_lower 10 _ rfl rfl rfl rfl ?_
  refine And.intro ⟨by omega, by omega⟩ ?_
  refine And.intro ⟨by omega, by omega⟩ ?_
  refine fun y ey I0 e0 => ?_
  refine fun y3 ey3 => ?_
  have f0 : FrI (V0 lwv) I I0 := by rw [e0]; exact FrI.rf.up rfl
  have g0 : FrI (V0 [92]) I I0 := by rw [e0]; exact FrI.rf.up rfl
  rw [h1t, Int.toNat_natCast] at e0
  have hp0 : RA I0 92 n (lowP p sn rof first z 0) := (hp.up e0 (z := p first + z) (by rw [ey, h1t, Int.toNat_natCast, hp first hfn, hx2, zI_add])).congr (fun r hr => by
    by_cases e : r = first
    · rw [if_pos e, lowP_hit (Or.inl e), e]
    · rw [if_neg e, lowP_no (fun w => w.elim e (fun ⟨i, hi, _⟩ => absurd hi (Nat.not_lt_zero _)))])
  have loop : ∀ (m j : Nat) (x3 : Int32) (l4 : Option AV) (I1 : II), j + m = n → x3 = zI j → FrI (V0 lwv) I I1 → RA I1 92 n (lowP p sn rof first z j) → RA I1 93 n (RJ q (lowQ q sn z) j) → RA I1 96 n (RJ sl (lowS sl sn z) j) →
      am_J Γ mX3_lower Q (d + 1) 0 0 12 [some (vR 3 0), some (vI x1), some (vI x2), some (vI x3), l4] [] I1 Lg R (GM gc) := by
    intro m
    induction m with
    | zero =>
      intro j x3 l4 I1 hj hx3 f1 p1 q1 s1
      have ej : j = n := by omega
      subst ej
      have ht : x3.toInt = j := by rw [hx3, zI_toInt (by omega) (by omega)]
      refine am_go vX3_lower 20 ?_
      refine And.intro (fun _ => ?_) (fun w => ?_)
      · exact h I1 f1 p1 q1.jn s1.jn
      · rw [ht, f1 18 _ rfl, hsd, zI_toInt (by omega) (by omega)] at w
        omega
    | succ m ih =>
      intro j x3 l4 I1 hj hx3 f1 p1 q1 s1
      have ht : x3.toInt = j := by rw [hx3, zI_toInt (by omega) (by omega)]
      have hjn : j < n := by omega
      have hs01 := hsb j
      have v4 : I1 98 0 j = zI (sn j) := by rw [f1 98 _ rfl]; exact hs j hjn
      have v5 : I1 96 0 j = zI (sl j) := by rw [s1 j hjn, RJ.ge (Nat.le_refl _)]
      have v6 : I1 93 0 j = zI (q j) := by rw [q1 j hjn, RJ.ge (Nat.le_refl _)]
      have v7 : I1 95 0 j = zI (rof j) := by rw [f1 95 _ rfl]; exact hro j hjn
      have next : ∀ (l4 : Option AV) (I2 : II), FrI (V0 lwv) I I2 → RA I2 92 n (lowP p sn rof first z (j + 1)) → RA I2 93 n (RJ q (lowQ q sn z) (j + 1)) → RA I2 96 n (RJ sl (lowS sl sn z) (j + 1)) → am_J Γ mX3_lower Q (d + 1) 0 0 83 [some (vR 3 0), some (vI x1), some (vI x2), some (vI x3), l4] [] I2 Lg R (GM gc) := by
        intro l4 I2 f2 p2 q2 s2
        refine am_goN vX3_lower 20 ?_
        refine fun y ey => ?_
        exact ih (j + 1) y _ I2 (by omega) (by rw [ey, hx3, zI_add]; congr 1) f2 p2 q2 s2
      refine am_goN vX3_lower 4 ?_
      refine And.intro (fun w => ?_) (fun _ => ?_)
      · rw [ht, f1 18 _ rfl, hsd, zI_toInt (by omega) (by omega)] at w
        omega
      refine am_goN vX3_lower 5 ?_
      refine And.intro ⟨by omega, by omega⟩ ?_
      refine And.intro (fun w => ?_) (fun w => ?_)
      · rw [ht, Int.toNat_natCast, v4, zI_toInt (by omega) (by omega)] at w
        refine am_goN vX3_lower 8 ?_
        refine And.intro ⟨by omega, by omega⟩ ?_
        refine And.intro ⟨by omega, by omega⟩ ?_
        refine fun y2 ey2 I2 e2 => ?_
        rw [ht, Int.toNat_natCast] at e2
        have fx : FrI (V0 [96]) I1 I2 := by rw [e2]; exact FrI.rf.up rfl
        refine next _ I2 (by rw [e2]; exact f1.up rfl) ((p1.fr fx rfl).congr (fun r hr => ?_)) ((q1.stay (if_pos w)).fr fx rfl) (s1.step e2 (by rw [ey2, ht, Int.toNat_natCast, v5, hx2, zI_sub]; unfold lowS; rw [if_pos w]))
        by_cases hh : r = first ∨ ∃ i, i < j ∧ sn i ≠ 0 ∧ rof i = r
        · rw [lowP_hit hh, lowP_hit (hh.imp id (fun ⟨i, a, b⟩ => ⟨i, by omega, b⟩))]
        · rw [lowP_no hh, lowP_no (fun g => hh (g.imp id (fun ⟨i, a, b, c⟩ => ⟨i, by by_cases e : i = j; exact absurd (by rw [e]; exact w) b; omega, b, c⟩)))]
      · rw [ht, Int.toNat_natCast, v4, zI_toInt (by omega) (by omega)] at w
        obtain ⟨r0, hr0, hr1, hr2⟩ := hrof j hjn w
        have nohit : ¬ (r0 = first ∨ ∃ i, i < j ∧ sn i ≠ 0 ∧ rof i = r0) := by
          rintro (g | ⟨i, a, b, c⟩)
          · exact hr2 g
          · have := hinj i j (by omega) hjn b w (c.trans hr1.symm)
            omega
        have v8 : I1 92 0 r0 = zI (p r0) := by rw [p1 r0 hr0, lowP_no nohit]
        refine am_goN vX3_lower 7 ?_
        refine And.intro ⟨by omega, by omega⟩ ?_
        refine fun x4 e4 => ?_
        have e4 : x4 = zI r0 := by rw [e4, ht, Int.toNat_natCast, v7, hr1]
        have h4t : x4.toInt = r0 := by rw [e4, zI_toInt (by omega) (by omega)]
        refine And.intro (fun g => ?_) (fun _ => ?_)
        · omega
        refine am_goN vX3_lower 3 ?_
        refine And.intro (fun g => ?_) (fun _ => ?_)
        · rw [h4t, zI_toInt (by omega) (by omega)] at g
          omega
        refine am_goN vX3_lower 17 ?_
        refine And.intro ⟨by omega, by omega⟩ ?_
        refine And.intro ⟨by omega, by omega⟩ ?_
        refine fun y2 ey2 I2 e2 => ?_
        refine And.intro ⟨by omega, by omega⟩ ?_
        refine And.intro ⟨by omega, by omega⟩ ?_
        refine fun y3 ey3 I3 e3 => ?_
        rw [h4t, Int.toNat_natCast] at e2
        rw [ht, Int.toNat_natCast] at e3
        have fx : FrI (V0 [92]) I1 I2 := by rw [e2]; exact FrI.rf.up rfl
        have fy : FrI (V0 [93]) I2 I3 := by rw [e3]; exact FrI.rf.up rfl
        refine next _ I3 (by rw [e3, e2]; exact (f1.up rfl).up rfl) (((p1.up e2 (z := p r0 + z) (by rw [ey2, h4t, Int.toNat_natCast, v8, hx2, zI_add])).fr fy rfl).congr (fun r hr => ?_)) ((q1.fr fx rfl).step e3 (by rw [ey3, ht, Int.toNat_natCast, fx 93 _ rfl, v6, hx2, zI_sub]; unfold lowQ; rw [if_neg w])) (((s1.stay (if_neg w)).fr fx rfl).fr fy rfl)
        by_cases e : r = r0
        · rw [if_pos e, e, lowP_hit (Or.inr ⟨j, by omega, w, hr1⟩)]
        · rw [if_neg e]
          by_cases hh : r = first ∨ ∃ i, i < j ∧ sn i ≠ 0 ∧ rof i = r
          · rw [lowP_hit hh, lowP_hit (hh.imp id (fun ⟨i, a, b⟩ => ⟨i, by omega, b⟩))]
          · rw [lowP_no hh, lowP_no (fun g => hh (g.imp id (fun ⟨i, a, b, c⟩ => ⟨i, by by_cases e2 : i = j; exact absurd (by rw [e2, hr1] at c; omega) e; omega, b, c⟩)))]
  exact loop n 0 _ _ I0 (by omega) ey3 f0 hp0 (hq.fr g0 rfl).j0 (hsl.fr g0 rfl).j0
end CLOW
