/-! Balls and boards. -/
/-- a board: parts, slope, rough, drop, turn -/
abbrev BD : Type := Int × Int × Int × Int × Int
def BDok (b : BD) : Prop := 64 ≤ b.1 ∧ b.1 ≤ 2560 ∧ -9 ≤ b.2.1 ∧ b.2.1 ≤ 30 ∧ 0 ≤ b.2.2.1 ∧ b.2.2.1 ≤ 15 ∧ 0 ≤ b.2.2.2.1 ∧ b.2.2.2.1 ≤ 9 ∧ 0 ≤ b.2.2.2.2 ∧ b.2.2.2.2 ≤ 8
def BoardAt (I : II) (b : Nat) (x : BD) : Prop := I 6 b 0 = zI x.1 ∧ I 7 b 0 = zI x.2.1 ∧ I 8 b 0 = zI x.2.2.1 ∧ I 9 b 0 = zI x.2.2.2.1 ∧ I 10 b 0 = zI x.2.2.2.2
/-- a ball: place, part, speed, place ahead, part ahead -/
abbrev BL : Type := Int × Int × Int × Int × Int
def BallAt (I : II) (b : Nat) (x : BL) : Prop := I 1 b 0 = zI x.1 ∧ I 2 b 0 = zI x.2.1 ∧ I 3 b 0 = zI x.2.2.1 ∧ I 4 b 0 = zI x.2.2.2.1 ∧ I 5 b 0 = zI x.2.2.2.2
abbrev bvars : List Nat := [1, 2, 3, 4, 5]
def fst9 (b : BD) (s : Int) : Int := max 0 (s + b.2.1)
/-- the speed behind a tick -/
def spd (b : BD) (s : Int) : Int := min 1023 (fst9 b s - fst9 b s * b.2.2.1 / 64)
theorem mul_div_le {f r : Int} (h0 : 0 ≤ f) (h1 : 0 ≤ r) (h2 : r ≤ 64) : 0 ≤ f * r / 64 ∧ f * r / 64 ≤ f := by
  have e1 : 0 ≤ f * r := Int.mul_nonneg h0 h1
  have e2 : f * r ≤ f * 64 := Int.mul_le_mul_of_nonneg_left h2 h0
  omega
theorem spd_rng {b : BD} {s : Int} (hb : BDok b) : 0 ≤ spd b s ∧ spd b s ≤ 1023 := by
  obtain ⟨-, -, -, -, h1, h2, -⟩ := hb
  have h0 : 0 ≤ fst9 b s := by unfold fst9; omega
  have := mul_div_le h0 h1 (by omega)
  unfold spd
  omega
/-- the class's way to the speed -/
theorem spd_class {b : BD} {s : Int} (hb : BDok b) (h0 : 0 ≤ s) (h1 : s ≤ 1023) : max 0 (min ((s + b.2.1) - ((s + b.2.1) * b.2.2.1).tdiv 64) 1023) = spd b s := by
  obtain ⟨-, -, g1, g2, g3, g4, -⟩ := hb
  unfold spd fst9
  by_cases hf : 0 ≤ s + b.2.1
  · rw [Int.max_eq_right hf]
    have := mul_div_le hf g3 (by omega)
    rw [Int.tdiv_eq_ediv_of_nonneg (Int.mul_nonneg hf g3)]
    omega
  · have hn : 0 ≤ -(s + b.2.1) := by omega
    have := mul_div_le hn g3 (by omega)
    have e1 : ((s + b.2.1) * b.2.2.1).tdiv 64 = -((-(s + b.2.1)) * b.2.2.1 / 64) := by
      have e2 : (s + b.2.1) * b.2.2.1 = -((-(s + b.2.1)) * b.2.2.1) := by rw [Int.neg_mul, Int.neg_neg]
      rw [e2, Int.neg_tdiv, Int.tdiv_eq_ediv_of_nonneg (Int.mul_nonneg hn g3)]
    rw [e1, Int.max_eq_left (by omega : s + b.2.1 ≤ 0)]
    omega
theorem prod_rng {f r A B : Int} (h0 : -A ≤ f) (h1 : f ≤ A) (h2 : 0 ≤ r) (h3 : r ≤ B) (hA : 0 ≤ A) : -(A * B) ≤ f * r ∧ f * r ≤ A * B := by
  have e1 : f * r ≤ A * r := Int.mul_le_mul_of_nonneg_right h1 h2
  have e2 : A * r ≤ A * B := Int.mul_le_mul_of_nonneg_left h3 hA
  have e3 : -A * r ≤ f * r := Int.mul_le_mul_of_nonneg_right h0 h2
  have e4 : -A * r = -(A * r) := Int.neg_mul _ _
  omega
theorem tdiv_rng {x A d : Int} (h0 : -A ≤ x) (h1 : x ≤ A) (hd : 0 < d) : -A ≤ x.tdiv d ∧ x.tdiv d ≤ A := by
  have := Int.natAbs_tdiv_le_natAbs x d
  omega
set_option maxRecDepth 100000 in
theorem s_rolls {Γ : AMG} {Q : QQ} {d b bo : Nat} {I : II} {Lg : LJ} {R : RR} {G : GG} {x : BD} {l : BL} (hb : BDok x) (hB : BoardAt I bo x) (hL : BallAt I b l) (hs0 : 0 ≤ l.2.2.1) (hs1 : l.2.2.1 ≤ 1023) (hp0 : 0 ≤ l.2.1) (hp1 : l.2.1 ≤ 1000000)
    (h : ∀ I' : II, FrI (V1 bvars b) I I' → BallAt I' b (l.1, l.2.1 + spd x l.2.2.1, spd x l.2.2.1, l.1, l.2.1) → (x.1 ≤ l.2.1 + spd x l.2.2.1 → Q (some (vI (zI 1))) I' Lg R G) ∧ (l.2.1 + spd x l.2.2.1 < x.1 → Q (some (vI (zI 0))) I' Lg R G)) :
    am_Sp Γ (d + 1) 0 0 mX0_rollsOver [vR 0 b, vR 1 bo] I Lg R G Q := by
  obtain ⟨b1, b2, b3, b4, b5⟩ := hB
  obtain ⟨l1, l2, l3, l4, l5⟩ := hL
  have hsp := spd_rng (s := l.2.2.1) hb
  have hcl := spd_class hb hs0 hs1
  obtain ⟨g1, g2, g3, g4, g5, g6, g7, g8, g9, g10⟩ := id hb
  have hpr := prod_rng (f := l.2.2.1 + x.2.1) (r := x.2.2.1) (A := 2000) (B := 15) (by omega) (by omega) g5 g6 (by omega)
  have htr := tdiv_rng (d := 64) hpr.1 hpr.2 (by omega)
  refine am_runN vX0_rollsOver 60 _ rfl rfl rfl rfl ?_
  refine fun x1 ex1 I1 e1 x2 ex2 I2 e2 x3 ex3 => ?_
  refine And.intro (by rw [zI_toInt (by omega) (by omega)]; omega) ?_
  refine fun x4 ex4 x5 ex5 I5 e5 x6 ex6 I6 e6 => ?_
  have v1 : x1 = zI l.1 := ex1.trans l1
  have v2 : x2 = zI l.2.1 := by rw [ex2, e1, up3_v _ (by decide)]; exact l2
  have v3 : x3 = zI (l.2.2.1 + x.2.1) := by rw [ex3, e2, up3_v _ (by decide), up3_v _ (by decide), e1, up3_v _ (by decide), up3_v _ (by decide), l3, b2, zI_add]
  have v4 : I2 8 bo 0 = zI x.2.2.1 := by rw [e2, up3_v _ (by decide), e1, up3_v _ (by decide), b3]
  have v5 : x5 = zI (spd x l.2.2.1) := by rw [ex5, ex4, v3, v4, zI_mul, zI_div (by omega) (by omega) (by omega) (by omega), zI_sub, am_min_z (by omega) (by omega) (by omega) (by omega), am_max_z (by omega) (by omega) (by omega) (by omega), hcl]
  have v6 : x6 = zI (l.2.1 + spd x l.2.2.1) := by rw [ex6, e5, up3_v _ (by decide), up3_s, e2, up3_v _ (by decide), e1, up3_v _ (by decide), l2, v5, zI_add]
  have hf : FrI (V1 bvars b) I I6 := by
    subst e1; subst e2; subst e5; subst e6
    exact (((FrI.rf.up (V1_in rfl)).up (V1_in rfl)).up (V1_in rfl)).up (V1_in rfl)
  have hbl : BallAt I6 b (l.1, l.2.1 + spd x l.2.2.1, spd x l.2.2.1, l.1, l.2.1) := by
    refine ⟨?_, ?_, ?_, ?_, ?_⟩
    · rw [e6, up3_v _ (by decide), e5, up3_v _ (by decide), e2, up3_v _ (by decide), e1, up3_v _ (by decide), l1]
    · rw [e6, up3_s, v6]
    · rw [e6, up3_v _ (by decide), e5, up3_s, v5]
    · rw [e6, up3_v _ (by decide), e5, up3_v _ (by decide), e2, up3_v _ (by decide), e1, up3_s, v1]
    · rw [e6, up3_v _ (by decide), e5, up3_v _ (by decide), e2, up3_s, v2]
  obtain ⟨hy, hn⟩ := h I6 hf hbl
  have hpt : (I6 2 b 0).toInt = l.2.1 + spd x l.2.2.1 := by rw [hbl.2.1, zI_toInt (by show _ ≤ l.2.1 + spd x l.2.2.1; omega) (by show l.2.1 + spd x l.2.2.1 < _; omega)]
  have hpr2 : (I6 6 bo 0).toInt = x.1 := by rw [hf _ _ rfl, b1, zI_toInt (by omega) (by omega)]
  refine And.intro (fun c => ?_) (fun c => ?_)
  · rw [hpt, hpr2] at c
    exact ⟨Or.inl rfl, hn c⟩
  · rw [hpt, hpr2] at c
    exact ⟨Or.inr rfl, hy c⟩
/-- how a ball leaves a board over a step of that drop -/
def lvS (b : BD) (s : Int) : Int := s - s * b.2.2.2.2 / 16
def lvK (dr s : Int) : Int := dr * s / 64
def lvP (b : BD) (dr p s : Int) : Int := p + (dr * lvS b s / 8 - b.1)
theorem lvS_rng {b : BD} {s : Int} (hb : BDok b) (h0 : 0 ≤ s) : 0 ≤ lvS b s ∧ lvS b s ≤ s ∧ (0 < s → 0 < lvS b s) := by
  obtain ⟨-, -, -, -, -, -, -, -, g1, g2⟩ := hb
  have e1 : 0 ≤ s * b.2.2.2.2 := Int.mul_nonneg h0 g1
  have e2 : s * b.2.2.2.2 ≤ s * 8 := Int.mul_le_mul_of_nonneg_left g2 h0
  unfold lvS
  omega
theorem dr_rng {dr s : Int} (h0 : 0 ≤ dr) (h1 : dr ≤ 9) (h2 : 0 ≤ s) (h3 : s ≤ 1023) : 0 ≤ dr * s ∧ dr * s ≤ 9207 := by
  have e1 : 0 ≤ dr * s := Int.mul_nonneg h0 h2
  have e2 : dr * s ≤ 9 * s := Int.mul_le_mul_of_nonneg_right h1 h2
  omega
set_option maxRecDepth 100000 in
theorem s_falls {Γ : AMG} {Q : QQ} {d b bo : Nat} {xd : Int32} {dr : Int} {I : II} {Lg : LJ} {R : RR} {G : GG} {x : BD} {l : BL} (hb : BDok x) (hB : BoardAt I bo x) (hL : BallAt I b l) (hs0 : 0 ≤ l.2.2.1) (hs1 : l.2.2.1 ≤ 1023) (hp0 : 0 ≤ l.2.1) (hp1 : l.2.1 ≤ 1000000) (hd0 : 0 ≤ dr) (hd1 : dr ≤ 9) (hxd : xd = zI dr)
    (h : ∀ I' : II, FrI (V1 [2, 3] b) I I' → BallAt I' b (l.1, lvP x dr l.2.1 l.2.2.1, lvS x l.2.2.1, l.2.2.2.1, l.2.2.2.2) → Q (some (vI (zI (lvK dr l.2.2.1)))) I' Lg R G) :
    am_Sp Γ (d + 1) 0 0 mX0_fallsOff [vR 0 b, vR 1 bo, vI xd] I Lg R G Q := by
  obtain ⟨b1, b2, b3, b4, b5⟩ := hB
  obtain ⟨l1, l2, l3, l4, l5⟩ := hL
  obtain ⟨g1, g2, g3, g4, g5, g6, g7, g8, g9, g10⟩ := id hb
  have hdr := dr_rng hd0 hd1 hs0 hs1
  have hlv := lvS_rng hb hs0
  have hdr2 := dr_rng hd0 hd1 hlv.1 (by omega : lvS x l.2.2.1 ≤ 1023)
  have e9 : 0 ≤ l.2.2.1 * x.2.2.2.2 := Int.mul_nonneg hs0 g9
  have e10 : l.2.2.1 * x.2.2.2.2 ≤ l.2.2.1 * 8 := Int.mul_le_mul_of_nonneg_left g10 hs0
  refine am_runN vX0_fallsOff 60 _ rfl rfl rfl rfl ?_
  refine And.intro (by rw [zI_toInt (by omega) (by omega)]; omega) ?_
  refine fun x1 ex1 => ?_
  refine And.intro (by rw [zI_toInt (by omega) (by omega)]; omega) ?_
  refine fun x2 ex2 I2 e2 => ?_
  refine And.intro (by rw [zI_toInt (by omega) (by omega)]; omega) ?_
  refine fun x3 ex3 I3 e3 => ?_
  have v1 : x1 = zI (lvK dr l.2.2.1) := by rw [ex1, hxd, l3, zI_mul, zI_divN hdr.1 (by omega) (by omega) (by omega)]; rfl
  have v2 : x2 = zI (lvS x l.2.2.1) := by rw [ex2, l3, b5, zI_mul, zI_divN e9 (by omega) (by omega) (by omega), zI_sub]; rfl
  have v3 : x3 = zI (lvP x dr l.2.1 l.2.2.1) := by
    rw [ex3, e2, up3_s, up3_v _ (by decide), up3_v _ (by decide), l2, b1, v2, hxd, zI_mul, zI_divN hdr2.1 (by omega) (by omega) (by omega), zI_sub, zI_add]
    rfl
  rw [v1]
  refine h I3 ?_ ⟨?_, ?_, ?_, ?_, ?_⟩
  · subst e2; subst e3
    exact (FrI.rf.up (V1_in rfl)).up (V1_in rfl)
  · rw [e3, up3_v _ (by decide), e2, up3_v _ (by decide), l1]
  · rw [e3, up3_s, v3]
  · rw [e3, up3_v _ (by decide), e2, up3_s, v2]
  · rw [e3, up3_v _ (by decide), e2, up3_v _ (by decide), l4]
  · rw [e3, up3_v _ (by decide), e2, up3_v _ (by decide), l5]
set_option maxRecDepth 100000 in
theorem s_bput {Γ : AMG} {Q : QQ} {d b : Nat} {x1 x2 x3 : Int32} {p t s : Int} {I : II} {Lg : LJ} {R : RR} {G : GG} (h1 : x1 = zI p) (h2 : x2 = zI t) (h3 : x3 = zI s)
    (h : ∀ I' : II, FrI (V1 bvars b) I I' → BallAt I' b (p, t, s, p, t) → Q none I' Lg R G) : am_Sp Γ d 0 0 mX0_put [vR 0 b, vI x1, vI x2, vI x3] I Lg R G Q := by
  refine am_runN vX0_put 60 _ rfl rfl rfl rfl ?_
  refine fun y1 ey1 I1 e1 y2 ey2 I2 e2 y3 ey3 I3 e3 y4 ey4 I4 e4 y5 ey5 I5 e5 => ?_
  refine h I5 ?_ ⟨?_, ?_, ?_, ?_, ?_⟩
  · subst e1; subst e2; subst e3; subst e4; subst e5
    exact ((((FrI.rf.up (V1_in rfl)).up (V1_in rfl)).up (V1_in rfl)).up (V1_in rfl)).up (V1_in rfl)
  · rw [e5, up3_v _ (by decide), e4, up3_v _ (by decide), e3, up3_v _ (by decide), e2, up3_v _ (by decide), e1, up3_s, ey1, h1]
  · rw [e5, up3_v _ (by decide), e4, up3_v _ (by decide), e3, up3_v _ (by decide), e2, up3_s, ey2, h2]
  · rw [e5, up3_v _ (by decide), e4, up3_v _ (by decide), e3, up3_s, ey3, h3]
  · rw [e5, up3_v _ (by decide), e4, up3_s, ey4, h1]
  · rw [e5, up3_s, ey5, h2]
set_option maxRecDepth 100000 in
theorem s_letGoOn {Γ : AMG} {Q : QQ} {d b : Nat} {x1 : Int32} {I : II} {Lg : LJ} {R : RR} {G : GG}
    (h : ∀ I' : II, FrI (V1 (0 :: bvars) b) I I' → I' 0 b 0 = x1 → BallAt I' b (0, 0, 0, 0, 0) → Q none I' Lg R G) : am_Sp Γ (d + 1) 0 0 mX0_letGoOn [vR 0 b, vI x1] I Lg R G Q := by
  refine am_runN vX0_letGoOn 60 _ rfl rfl rfl rfl ?_
  refine fun y1 ey1 I1 e1 => ?_
  refine s_bput (p := 0) (t := 0) (s := 0) rfl rfl rfl (fun I2 f2 b2 => ?_)
  refine h I2 ?_ ?_ b2
  · have f1 : FrI (V1 (0 :: bvars) b) I I1 := by subst e1; exact FrI.rf.up (V1_in rfl)
    refine f1.tr (f2.mono (fun v i hv => ?_))
    unfold V1 at hv ⊢
    rw [List.elem_cons] at hv
    cases hv2 : (v == 0)
    · rw [hv2] at hv; exact hv
    · rw [hv2] at hv
      have e : v = 0 := by simpa using hv2
      subst e
      rfl
  · rw [f2 _ _ rfl, e1, up3_s, ey1]
set_option maxRecDepth 100000 in
theorem s_atRest {Γ : AMG} {Q : QQ} {d b : Nat} {I : II} {Lg : LJ} {R : RR} {G : GG} {l : BL} (hL : BallAt I b l) (hs0 : 0 ≤ l.2.2.1) (hs1 : l.2.2.1 ≤ 1023) (hy : l.2.2.1 = 0 → Q (some (vI (zI 1))) I Lg R G) (hn : l.2.2.1 ≠ 0 → Q (some (vI (zI 0))) I Lg R G) : am_Sp Γ d 0 0 mX0_isAtRest [vR 0 b] I Lg R G Q := by
  refine am_run vX0_isAtRest 60 _ rfl rfl rfl rfl ?_
  have e : (I 3 b 0).toInt = l.2.2.1 := by rw [hL.2.2.1, zI_toInt (by omega) (by omega)]
  refine And.intro (fun c => ?_) (fun c => ?_)
  · rw [e] at c
    exact ⟨Or.inl rfl, hn c⟩
  · rw [e] at c
    exact ⟨Or.inr rfl, hy c⟩
