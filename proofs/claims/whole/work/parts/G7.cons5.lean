/-! Constructors of the crew and the night (printed by wip/whole/genG6.py). -/
theorem mnGR {G0 G : GG} {P : Nat → Nat → Nat → Prop} {a : Nat → Nat} (h : GR G0 G P a) (h1 : G.2 23 = 0) (h2 : G.2 115 = 0) : GR G0 (mnG G) (fun c j k => P c j k ∨ (c = 23 ∧ j = 0 ∧ k < 28)) (fun x => a x + (d1 23 x + (if x = 115 then 28 else 0))) := by
  refine ⟨fun x => ?_, fun c i k q => ?_, fun x => ?_, fun c i k q => ?_⟩
  · show (if x = 23 then 1 else if x = 115 then 28 else G.2 x) = G0.2 x + (a x + (d1 23 x + (if x = 115 then 28 else 0)))
    have hx := h.1 x
    unfold d1
    by_cases e : x = 23
    · have e2 : ¬ x = 115 := by omega
      rw [if_pos e, if_pos e, if_neg e2]
      rw [e, h1] at hx
      rw [e]
      omega
    · rw [if_neg e, if_neg e]
      by_cases e2 : x = 115
      · rw [if_pos e2, if_pos e2]
        rw [e2, h2] at hx
        rw [e2]
        omega
      · rw [if_neg e2, if_neg e2]
        omega
  · show ((Nat.beq c 23 && (Nat.beq i 0 && Nat.blt k 28)) || G.1 c i k) = true
    rw [h.2.1 c i k q, Bool.or_true]
  · show ((Nat.beq 1000 23 && (Nat.beq x 0 && Nat.blt 0 28)) || G.1 1000 x 0) = _
    exact h.2.2.1 x
  · show ((Nat.beq c 23 && (Nat.beq i 0 && Nat.blt k 28)) || G.1 c i k) = true
    rcases q with q | ⟨rfl, rfl, q⟩
    · rw [h.2.2.2 c i k q, Bool.or_true]
    · rw [Nat.blt_eq.mpr q]
      rfl
theorem Z9.frd {I I' : II} (h : Z9 I) (f : FrI (V0 [91]) I I') : Z9 I' := fun v hv i j => by
  rw [f v i (by
    show ([91] : List Nat).elem v = false
    cases e : ([91] : List Nat).elem v with
    | false => rfl
    | true =>
      have : v = 91 := List.mem_singleton.mp (List.elem_iff.mp e)
      rw [this] at hv
      cases hv)]
  exact h v hv i j
set_option maxRecDepth 100000 in
theorem s_forgetG {Γ : AMG} {Q : QQ} {d : Nat} {I : II} {Lg : LJ} {R : RR} {G : GG} (hf : G.1 3 0 2 = true) (h : ∀ I' : II, FrI (V0 [91]) I I' → (∀ j, j < 24 → I' 91 0 j = zI (-1)) → Q none I' Lg R G) : am_Sp Γ (d + 1) 0 0 mX3_forget [vR 3 0] I Lg R G Q := by
  refine am_run vX3_forget 40 _ rfl rfl rfl rfl ?_
  refine am_cnd hf ?_
  refine s_fill (c := 22) (i := 0) (N := 24) (v := 91) rfl (by omega) (fun I1 h1 => ?_)
  refine h I1 (fun v i hv => ?_) (fun j hj => ?_)
  · funext j
    rw [h1, if_neg]
    rintro ⟨q, -, -⟩
    subst q
    cases hv
  · rw [h1, if_pos ⟨rfl, rfl, hj⟩]
def dnCw : Nat → Nat := fun x => (((((((((((((0 + d1 21 x) + d1 22 x) + (d1 23 x + (if x = 115 then 28 else 0))) + d1 24 x) + d1 25 x) + d1 26 x) + d1 27 x) + d1 28 x) + d1 29 x) + d1 30 x) + d1 31 x) + d1 32 x) + d1 33 x)
def PfCw : Nat → Nat → Nat → Prop := fun c j k => ((((((((((((((False ∨ (c = 3 ∧ j = 0 ∧ k = 0)) ∨ (c = 3 ∧ j = 0 ∧ k = 2)) ∨ (c = 23 ∧ j = 0 ∧ k < 28)) ∨ (c = 3 ∧ j = 0 ∧ k = 3)) ∨ (c = 3 ∧ j = 0 ∧ k = 4)) ∨ (c = 3 ∧ j = 0 ∧ k = 5)) ∨ (c = 3 ∧ j = 0 ∧ k = 6)) ∨ (c = 3 ∧ j = 0 ∧ k = 7)) ∨ (c = 3 ∧ j = 0 ∧ k = 8)) ∨ (c = 3 ∧ j = 0 ∧ k = 9)) ∨ (c = 3 ∧ j = 0 ∧ k = 10)) ∨ (c = 3 ∧ j = 0 ∧ k = 11)) ∨ (c = 3 ∧ j = 0 ∧ k = 12)) ∨ (c = 3 ∧ j = 0 ∧ k = 13))
set_option maxRecDepth 100000 in
set_option maxHeartbeats 4000000 in
theorem s_Cwinit {Γ : AMG} {Q : QQ} {d : Nat} {I : II} {Lg : LJ} {R : RR} {G0 : GG} (hN : am_NK Γ) (ho : Opn G0) (hc : ∀ x, ([21, 22, 24, 25, 26, 27, 28, 29, 30, 31, 32, 33, 23, 115] : List Nat).elem x = true → G0.2 x = 0) (hz0 : Z9 I)
    (h : ∀ (I' : II) (G' : GG), Z9 I' → FrI nM I I' → (∀ j, j < 24 → I' 91 0 j = zI (-1)) → GR G0 G' PfCw dnCw → Q none I' Lg R G') : am_Sp Γ (d + 3) 41 1096 mX3_init [vR 3 0] I Lg R G0 Q := by
  have hI0 : GR G0 G0 (fun _ _ _ => False) (fun _ => 0) := GR.rf
  have fr0 : FrI nD I I := FrI.rf
  refine am_runN vX3_init 400 _ rfl rfl rfl rfl ?_
  refine am_cnd (am_bop (hI0.opn ho 21)) ⟨rfl, fun _ => ?_⟩
  refine And.intro ⟨rfl, (hI0.cnt (hc 21 rfl) rfl)⟩ ?_
  have hI1 := (hI0.new 21).put 3 0 0 (by decide)
  revert hI1
  generalize ((up3 (am_newG G0 21).1 3 0 0 true, (am_newG G0 21).2) : GG) = G1
  intro hI1
  refine fun y1 e1 I1 f1 => ?_
  have hz1 : Z9 I1 := by rw [f1]; exact hz0.up (Or.inr e1)
  have fr1 : FrI nD I I1 := by rw [f1]; exact fr0.up rfl
  refine am_cnd (am_bop (hI1.opn ho 22)) ⟨rfl, fun _ => ?_⟩
  refine And.intro ⟨rfl, (hI1.cnt (hc 22 rfl) rfl)⟩ ?_
  have hI2 := (hI1.new 22).put 3 0 2 (by decide)
  revert hI2
  generalize ((up3 (am_newG G1 22).1 3 0 2 true, (am_newG G1 22).2) : GG) = G2
  intro hI2
  refine ar_mnew (idx := 22) (k := 10) (n := 256) (hI2.opn ho 115) (hI2.cnt (hc 23 rfl) rfl) (hI2.cnt (hc 115 rfl) rfl) (xok_at (i := 210) (by decide +kernel) (by decide +kernel)) (nst hN (i := 211) (by decide +kernel) rfl) (xok_at (i := 175) (by decide +kernel) (by decide +kernel)) (by decide +kernel) ?_
  refine am_goN vX3_init 400 ?_
  refine And.intro ⟨rfl, rfl⟩ ?_
  have hI3 := (mnGR hI2 (hI2.cnt (hc 23 rfl) rfl) (hI2.cnt (hc 115 rfl) rfl)).put 3 0 3 (by decide)
  revert hI3
  generalize ((up3 (mnG G2).1 3 0 3 true, (mnG G2).2) : GG) = G3
  intro hI3
  refine am_cnd (am_bop (hI3.opn ho 24)) ⟨rfl, fun _ => ?_⟩
  refine And.intro ⟨rfl, (hI3.cnt (hc 24 rfl) rfl)⟩ ?_
  have hI4 := (hI3.new 24).put 3 0 4 (by decide)
  revert hI4
  generalize ((up3 (am_newG G3 24).1 3 0 4 true, (am_newG G3 24).2) : GG) = G4
  intro hI4
  refine am_cnd (am_bop (hI4.opn ho 25)) ⟨rfl, fun _ => ?_⟩
  refine And.intro ⟨rfl, (hI4.cnt (hc 25 rfl) rfl)⟩ ?_
  have hI5 := (hI4.new 25).put 3 0 5 (by decide)
  revert hI5
  generalize ((up3 (am_newG G4 25).1 3 0 5 true, (am_newG G4 25).2) : GG) = G5
  intro hI5
  refine am_cnd (am_bop (hI5.opn ho 26)) ⟨rfl, fun _ => ?_⟩
  refine And.intro ⟨rfl, (hI5.cnt (hc 26 rfl) rfl)⟩ ?_
  have hI6 := (hI5.new 26).put 3 0 6 (by decide)
  revert hI6
  generalize ((up3 (am_newG G5 26).1 3 0 6 true, (am_newG G5 26).2) : GG) = G6
  intro hI6
  refine am_cnd (am_bop (hI6.opn ho 27)) ⟨rfl, fun _ => ?_⟩
  refine And.intro ⟨rfl, (hI6.cnt (hc 27 rfl) rfl)⟩ ?_
  have hI7 := (hI6.new 27).put 3 0 7 (by decide)
  revert hI7
  generalize ((up3 (am_newG G6 27).1 3 0 7 true, (am_newG G6 27).2) : GG) = G7
  intro hI7
  refine am_cnd (am_bop (hI7.opn ho 28)) ⟨rfl, fun _ => ?_⟩
  refine And.intro ⟨rfl, (hI7.cnt (hc 28 rfl) rfl)⟩ ?_
  have hI8 := (hI7.new 28).put 3 0 8 (by decide)
  revert hI8
  generalize ((up3 (am_newG G7 28).1 3 0 8 true, (am_newG G7 28).2) : GG) = G8
  intro hI8
  refine am_cnd (am_bop (hI8.opn ho 29)) ⟨rfl, fun _ => ?_⟩
  refine And.intro ⟨rfl, (hI8.cnt (hc 29 rfl) rfl)⟩ ?_
  have hI9 := (hI8.new 29).put 3 0 9 (by decide)
  revert hI9
  generalize ((up3 (am_newG G8 29).1 3 0 9 true, (am_newG G8 29).2) : GG) = G9
  intro hI9
  refine am_cnd (am_bop (hI9.opn ho 30)) ⟨rfl, fun _ => ?_⟩
  refine And.intro ⟨rfl, (hI9.cnt (hc 30 rfl) rfl)⟩ ?_
  have hI10 := (hI9.new 30).put 3 0 10 (by decide)
  revert hI10
  generalize ((up3 (am_newG G9 30).1 3 0 10 true, (am_newG G9 30).2) : GG) = G10
  intro hI10
  refine am_cnd (am_bop (hI10.opn ho 31)) ⟨rfl, fun _ => ?_⟩
  refine And.intro ⟨rfl, (hI10.cnt (hc 31 rfl) rfl)⟩ ?_
  have hI11 := (hI10.new 31).put 3 0 11 (by decide)
  revert hI11
  generalize ((up3 (am_newG G10 31).1 3 0 11 true, (am_newG G10 31).2) : GG) = G11
  intro hI11
  refine am_cnd (am_bop (hI11.opn ho 32)) ⟨rfl, fun _ => ?_⟩
  refine And.intro ⟨rfl, (hI11.cnt (hc 32 rfl) rfl)⟩ ?_
  have hI12 := (hI11.new 32).put 3 0 12 (by decide)
  revert hI12
  generalize ((up3 (am_newG G11 32).1 3 0 12 true, (am_newG G11 32).2) : GG) = G12
  intro hI12
  refine am_cnd (am_bop (hI12.opn ho 33)) ⟨rfl, fun _ => ?_⟩
  refine And.intro ⟨rfl, (hI12.cnt (hc 33 rfl) rfl)⟩ ?_
  have hI13 := (hI12.new 33).put 3 0 13 (by decide)
  revert hI13
  generalize ((up3 (am_newG G12 33).1 3 0 13 true, (am_newG G12 33).2) : GG) = G13
  intro hI13
  refine fun y2 e2 I2 f2 => ?_
  have hz2 : Z9 I2 := by rw [f2]; exact hz1.up (Or.inr e2)
  have fr2 : FrI nD I I2 := by rw [f2]; exact fr1.up rfl
  refine fun y3 e3 I3 f3 => ?_
  have hz3 : Z9 I3 := by rw [f3]; exact hz2.up (Or.inr e3)
  have fr3 : FrI nD I I3 := by rw [f3]; exact fr2.up rfl
  refine s_forgetG (hI13.2.2.2 3 0 2 (by decide)) (fun I4 ff dd => ?_)
  have hz4 : Z9 I4 := hz3.frd ff
  exact h I4 G13 hz4 ((fr3.mono nD_nM).tr (ff.mono (V0_nM (by decide)))) dd hI13
def dnNg0 : Nat → Nat := fun x => (((((0 + d1 41 x) + d1 42 x) + d1 43 x) + d1 44 x) + d1 45 x)
def PfNg0 : Nat → Nat → Nat → Prop := fun c j k => (((((False ∨ (c = 6 ∧ j = 0 ∧ k = 0)) ∨ (c = 6 ∧ j = 0 ∧ k = 1)) ∨ (c = 6 ∧ j = 0 ∧ k = 2)) ∨ (c = 6 ∧ j = 0 ∧ k = 6)) ∨ (c = 6 ∧ j = 0 ∧ k = 10))
def dnNg (n : Nat) : Nat → Nat := fun x => dnNg0 x + (if x = 0 then n else 0)
def PfNg (n : Nat) : Nat → Nat → Nat → Prop := fun c j k => PfNg0 c j k ∨ (c = 44 ∧ j = 0 ∧ k < n)
set_option maxRecDepth 100000 in
theorem ng_loop {Γ : AMG} {Q : QQ} {d : Nat} {I : II} {Lg : LJ} {R : RR} {G0 : GG} (hN : am_NK Γ) (ho : Opn G0) (hb : G0.2 0 = 2)
    (h : ∀ (I' : II) (G' : GG), Z9 I' → FrI nD I I' → GR G0 G' (PfNg 24) (dnNg 24) → Q none I' Lg R G') :
    ∀ (m j : Nat) (x1 : Int32) (I1 : II) (G1 : GG), j + m = 24 → x1 = zI j → Z9 I1 → FrI nD I I1 → GR G0 G1 (PfNg j) (dnNg j) → am_J Γ mX6_init Q (d + 3) m (6 * m) 89 [some (vR 6 0), some (vI x1)] [] I1 Lg R G1 := by
  intro m
  induction m with
  | zero =>
    intro j x1 I1 G1 hj hx hz fr hI
    have ej : j = 24 := by omega
    subst ej
    refine am_goN vX6_init 20 ?_
    refine And.intro (fun _ => ?_) (fun c => ?_)
    · exact h I1 G1 hz fr hI
    · rw [hx, zI_toInt (by omega) (by omega), zI_toInt (by omega) (by omega)] at c
      omega
  | succ m ih =>
    intro j x1 I1 G1 hj hx hz fr hI
    show am_J Γ mX6_init Q (d + 3) (m + 1) (6 * m + 6) 89 [some (vR 6 0), some (vI x1)] [] I1 Lg R G1
    have hxt : x1.toInt = j := by rw [hx, zI_toInt (by omega) (by omega)]
    have hcn : G1.2 0 = 2 + j := by
      rw [hI.1, hb]
      show 2 + (dnNg0 0 + (if 0 = 0 then j else 0)) = 2 + j
      rw [if_pos rfl, show dnNg0 0 = 0 from rfl]
      omega
    refine am_goN vX6_init 20 ?_
    refine And.intro (fun c => ?_) (fun _ => ?_)
    · rw [hxt, zI_toInt (by omega) (by omega)] at c
      omega
    refine am_cnd (hI.2.2.2 6 0 6 (Or.inl (by unfold PfNg0; decide))) ?_
    refine am_cnd (am_bop (hI.opn ho 0)) (fun _ => ?_)
    refine ar_ctor (M2 := mX0_init) (c := 0) (idx := 56) (host := "StormLoft") (k2 := 0) (n2 := 0) (k := m) (n := 6 * m) rfl (Nat.zero_add _).symm (Nat.zero_add _).symm ⟨(xok_at (i := 356) (by decide +kernel) (by decide +kernel)), rfl, by decide, by decide, by decide, by decide⟩ rfl rfl (nst hN (i := 422) (by decide +kernel) rfl) (xok_at (i := 355) (by decide +kernel) (by decide +kernel)) (xok_at (i := 110) (by decide +kernel) (by decide +kernel)) rfl (Nat.le_of_ble_eq_true rfl) (by decide +kernel) ?_
    refine s_Blinit hz (fun I2 hz2 f2 => ?_)
    refine am_goN vX6_init 20 ?_
    refine And.intro ⟨by omega, by omega⟩ (And.intro ⟨rfl, ?_⟩ ?_)
    · show G1.2 0 = 2 + x1.toInt.toNat
      rw [hxt, Int.toNat_natCast]
      exact hcn
    · have hI2 := (hI.new 0).put 44 0 x1.toInt.toNat (by decide)
      rw [hxt, Int.toNat_natCast] at hI2 ⊢
      refine fun x2 e2 => ?_
      refine ih (j + 1) x2 I2 _ (by omega) (by rw [e2, hx, zI_add]; congr 1) hz2 (fr.tr f2) (hI2.sub (fun c i k q => ?_) (fun x => ?_))
      · rcases q with q | ⟨q1, q2, q3⟩
        · exact Or.inl (Or.inl q)
        · by_cases e : k < j
          · exact Or.inl (Or.inr ⟨q1, q2, e⟩)
          · exact Or.inr ⟨q1, q2, by omega⟩
      · show dnNg0 x + (if x = 0 then j else 0) + d1 0 x = dnNg0 x + (if x = 0 then j + 1 else 0)
        unfold d1
        split <;> omega
set_option maxRecDepth 100000 in
set_option maxHeartbeats 4000000 in
theorem s_Nginit {Γ : AMG} {Q : QQ} {d : Nat} {I : II} {Lg : LJ} {R : RR} {G0 : GG} (hN : am_NK Γ) (ho : Opn G0) (hb : G0.2 0 = 2) (hc : ∀ x, ([41, 42, 43, 44, 45] : List Nat).elem x = true → G0.2 x = 0) (hz0 : Z9 I)
    (h : ∀ (I' : II) (G' : GG), Z9 I' → FrI nD I I' → GR G0 G' (PfNg 24) (dnNg 24) → Q none I' Lg R G') : am_Sp Γ (d + 3) 29 1072 mX6_init [vR 6 0] I Lg R G0 Q := by
  have hI0 : GR G0 G0 (fun _ _ _ => False) (fun _ => 0) := GR.rf
  have fr0 : FrI nD I I := FrI.rf
  refine am_runN vX6_init 400 _ rfl rfl rfl rfl ?_
  refine am_cnd (am_bop (hI0.opn ho 41)) ⟨rfl, fun _ => ?_⟩
  refine And.intro ⟨rfl, (hI0.cnt (hc 41 rfl) rfl)⟩ ?_
  have hI1 := (hI0.new 41).put 6 0 0 (by decide)
  revert hI1
  generalize ((up3 (am_newG G0 41).1 6 0 0 true, (am_newG G0 41).2) : GG) = G1
  intro hI1
  refine am_cnd (am_bop (hI1.opn ho 42)) ⟨rfl, fun _ => ?_⟩
  refine And.intro ⟨rfl, (hI1.cnt (hc 42 rfl) rfl)⟩ ?_
  have hI2 := (hI1.new 42).put 6 0 1 (by decide)
  revert hI2
  generalize ((up3 (am_newG G1 42).1 6 0 1 true, (am_newG G1 42).2) : GG) = G2
  intro hI2
  refine am_cnd (am_bop (hI2.opn ho 43)) ⟨rfl, fun _ => ?_⟩
  refine And.intro ⟨rfl, (hI2.cnt (hc 43 rfl) rfl)⟩ ?_
  have hI3 := (hI2.new 43).put 6 0 2 (by decide)
  revert hI3
  generalize ((up3 (am_newG G2 43).1 6 0 2 true, (am_newG G2 43).2) : GG) = G3
  intro hI3
  refine fun y1 e1 I1 f1 => ?_
  have hz1 : Z9 I1 := by rw [f1]; exact hz0.up (Or.inr e1)
  have fr1 : FrI nD I I1 := by rw [f1]; exact fr0.up rfl
  refine fun y2 e2 I2 f2 => ?_
  have hz2 : Z9 I2 := by rw [f2]; exact hz1.up (Or.inr e2)
  have fr2 : FrI nD I I2 := by rw [f2]; exact fr1.up rfl
  refine fun y3 e3 I3 f3 => ?_
  have hz3 : Z9 I3 := by rw [f3]; exact hz2.up (Or.inr e3)
  have fr3 : FrI nD I I3 := by rw [f3]; exact fr2.up rfl
  refine ar_anew (c := 44) (a := 3) (N := 24) (x := 0) (y := 2) (t := 6) (idx := 31) (C := "StormLoft$Ball") (k := 25) (n := 148) (hI3.opn ho 44) rfl ⟨by decide, by decide⟩ rfl (by decide) (xok_at (i := 420) (by decide +kernel) (by decide +kernel)) (nst hN (i := 421) (by decide +kernel) rfl) (by decide +kernel) (fun _ => ?_)
  refine am_goN vX6_init 400 ?_
  refine And.intro ⟨rfl, (hI3.cnt (hc 44 rfl) rfl)⟩ ?_
  have hI4 := (hI3.new 44).put 6 0 6 (by decide)
  revert hI4
  generalize ((up3 (am_newG G3 44).1 6 0 6 true, (am_newG G3 44).2) : GG) = G4
  intro hI4
  refine fun y4 e4 I4 f4 => ?_
  have hz4 : Z9 I4 := by rw [f4]; exact hz3.up (Or.inr e4)
  have fr4 : FrI nD I I4 := by rw [f4]; exact fr3.up rfl
  refine fun y5 e5 I5 f5 => ?_
  have hz5 : Z9 I5 := by rw [f5]; exact hz4.up (Or.inr e5)
  have fr5 : FrI nD I I5 := by rw [f5]; exact fr4.up rfl
  refine fun y6 e6 I6 f6 => ?_
  have hz6 : Z9 I6 := by rw [f6]; exact hz5.up (Or.inr e6)
  have fr6 : FrI nD I I6 := by rw [f6]; exact fr5.up rfl
  refine am_cnd (am_bop (hI4.opn ho 45)) ⟨rfl, fun _ => ?_⟩
  refine And.intro ⟨rfl, (hI4.cnt (hc 45 rfl) rfl)⟩ ?_
  have hI5 := (hI4.new 45).put 6 0 10 (by decide)
  revert hI5
  generalize ((up3 (am_newG G4 45).1 6 0 10 true, (am_newG G4 45).2) : GG) = G5
  intro hI5
  refine fun y7 e7 I7 f7 => ?_
  have hz7 : Z9 I7 := by rw [f7]; exact hz6.up (Or.inr e7)
  have fr7 : FrI nD I I7 := by rw [f7]; exact fr6.up rfl
  refine And.intro (Or.inr rfl) (fun y8 e8 I8 f8 => ?_)
  have hz8 : Z9 I8 := by rw [f8]; exact hz7.up (Or.inl rfl)
  have fr8 : FrI nD I I8 := by rw [f8]; exact fr7.up rfl
  refine fun x1 ex1 => ?_
  exact ng_loop hN ho hb h 24 0 x1 I8 G5 rfl ex1 hz8 fr8 (hI5.sub (fun c j k q => q.elim id (fun z => absurd z.2.2 (Nat.not_lt_zero _))) (fun x => by show dnNg0 x = dnNg0 x + (if x = 0 then 0 else 0); split <;> rfl))
