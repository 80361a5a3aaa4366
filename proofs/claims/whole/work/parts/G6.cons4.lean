/-! Constructors with objects and rows of references (printed by wip/whole/genG6.py). -/
def isNest : Cond → Bool
  | .methodLinkNest .. => true
  | .arrayOver _ => true
  | _ => false
/-- what the start tells of private constructors -/
def am_NK (Γ : AMG) : Prop := ∀ U, Γ.KX U → ∀ w ∈ lw_tbl, isNest w = true → va_Nw w U
theorem nst {Γ : AMG} (hN : am_NK Γ) {w : Cond} {i : Nat} (h : lw_tbl[i]? = some w) (hn : isNest w = true) : ∀ U, Γ.KX U → va_Nw w U := fun U hU => hN U hU w (List.mem_of_getElem? h) hn
section CTOR
variable {Γ : AMG} {M M2 : MD} {Q : QQ} {d k n k2 n2 k' n' pc : Nat} {L : LL} {st rest : List AV} {I : II} {Lg : LJ} {R : RR} {G : GG}
theorem ar_ctor {c i idx : Nat} {host : String} (hst : st = vR c i :: rest) (hk : k' = k2 + k) (hn : n' = n2 + n) (hok : am_Mok M2) (hni : M2.2.1.name = "<init>") (hrt : M2.2.2.2.2.1 = none) (h1 : ∀ U, Γ.KX U → va_Nw (.methodLinkNest M.1 idx M2.2.1 host) U) (h2 : Cond.instanceMethod M2.2.1 ∈ am_BIG) (h4 : Cond.initialized M2.1 ∈ am_BIG)
    (hlen : 0 = M2.2.2.2.2.2) (hcat : am_cats rest ≤ 8) (hd : decode M.2.2.1 pc = .ok (.invokespecial idx, 3)) (h : am_Sp Γ d k2 n2 M2 [vR c i] I Lg R G (fun r I' Lg' R' G' => am_J Γ M Q (d + 1) k n (pc + 3) L (r.toList ++ rest) I' Lg' R' G')) : am_J Γ M Q (d + 1) k' n' pc L st I Lg R G := by
  subst hk; subst hn
  exact ar_invN (As := []) hst hok hni hrt h1 h2 h4 hlen hcat hd h
end CTOR
theorem GR.cnt {G0 G : GG} {P : Nat → Nat → Nat → Prop} {a : Nat → Nat} (h : GR G0 G P a) {t i : Nat} (h0 : G0.2 t = i) (hz : a t = 0) : G.2 t = i := by rw [h.1, h0, hz]; rfl
set_option maxRecDepth 100000 in
theorem s_Blinit {Γ : AMG} {Q : QQ} {d i : Nat} {I : II} {Lg : LJ} {R : RR} {G : GG} (hz : Z9 I)
    (h : ∀ (I' : II), Z9 I' → FrI nD I I' → Q none I' Lg R G) : am_Sp Γ (d + 2) 0 0 mX0_init [vR 0 i] I Lg R G Q := by
  refine am_runN vX0_init 400 _ rfl rfl rfl rfl ?_
  refine fun y1 e1 I1 f1 y2 e2 I2 f2 y3 e3 I3 f3 y4 e4 I4 f4 y5 e5 I5 f5 y6 e6 I6 f6 => ?_
  refine h I6 (by rw [f6, f5, f4, f3, f2, f1]; exact ((((((hz.up (Or.inr e1)).up (Or.inr e2)).up (Or.inr e3)).up (Or.inr e4)).up (Or.inr e5)).up (Or.inr e6))) (by rw [f6, f5, f4, f3, f2, f1]; exact ((((((FrI.rf.up rfl).up rfl).up rfl).up rfl).up rfl).up rfl))
def dnPt : Nat → Nat := fun x => (((0 + d1 46 x) + d1 47 x) + d1 48 x)
def PfPt (i : Nat) : Nat → Nat → Nat → Prop := fun c j k => (((False ∨ (c = 7 ∧ j = i ∧ k = 0)) ∨ (c = 7 ∧ j = i ∧ k = 1)) ∨ (c = 7 ∧ j = i ∧ k = 2))
set_option maxRecDepth 100000 in
set_option maxHeartbeats 4000000 in
theorem s_Ptinit {Γ : AMG} {Q : QQ} {d i : Nat} {I : II} {Lg : LJ} {R : RR} {G0 : GG} (hN : am_NK Γ) (ho : Opn G0) (hc : ∀ x, ([46, 47, 48] : List Nat).elem x = true → G0.2 x = i) (hz0 : Z9 I)
    (h : ∀ (I' : II) (G' : GG), Z9 I' → FrI nD I I' → GR G0 G' (PfPt i) dnPt → Q none I' Lg R G') : am_Sp Γ (d + 2) 3 36 mX7_init [vR 7 i] I Lg R G0 Q := by
  have hI0 : GR G0 G0 (fun _ _ _ => False) (fun _ => 0) := GR.rf
  have fr0 : FrI nD I I := FrI.rf
  refine am_runN vX7_init 400 _ rfl rfl rfl rfl ?_
  refine ar_anew (c := 46) (a := 4) (N := 12) (x := 1) (y := 1) (t := 3) (idx := 9) (C := "StormLoft$Board") (k := 2) (n := 24) (hI0.opn ho 46) rfl ⟨by decide, by decide⟩ rfl (by decide) (xok_at (i := 526) (by decide +kernel) (by decide +kernel)) (nst hN (i := 177) (by decide +kernel) rfl) (by decide +kernel) (fun _ => ?_)
  refine am_goN vX7_init 400 ?_
  refine And.intro ⟨rfl, (hI0.cnt (hc 46 rfl) rfl)⟩ ?_
  have hI1 := (hI0.new 46).put 7 i 0 (by decide)
  revert hI1
  generalize ((up3 (am_newG G0 46).1 7 i 0 true, (am_newG G0 46).2) : GG) = G1
  intro hI1
  refine am_cnd (am_bop (hI1.opn ho 47)) ⟨rfl, fun _ => ?_⟩
  refine And.intro ⟨rfl, (hI1.cnt (hc 47 rfl) rfl)⟩ ?_
  have hI2 := (hI1.new 47).put 7 i 1 (by decide)
  revert hI2
  generalize ((up3 (am_newG G1 47).1 7 i 1 true, (am_newG G1 47).2) : GG) = G2
  intro hI2
  refine am_cnd (am_bop (hI2.opn ho 48)) ⟨rfl, fun _ => ?_⟩
  refine And.intro ⟨rfl, (hI2.cnt (hc 48 rfl) rfl)⟩ ?_
  have hI3 := (hI2.new 48).put 7 i 2 (by decide)
  revert hI3
  generalize ((up3 (am_newG G2 48).1 7 i 2 true, (am_newG G2 48).2) : GG) = G3
  intro hI3
  refine fun y1 e1 I1 f1 => ?_
  have hz1 : Z9 I1 := by rw [f1]; exact hz0.up (Or.inr e1)
  have fr1 : FrI nD I I1 := by rw [f1]; exact fr0.up rfl
  exact h I1 G3 hz1 fr1 hI3
def dnFl : Nat → Nat := fun x => ((((0 + d1 34 x) + d1 35 x) + d1 36 x) + d1 0 x)
def PfFl (i : Nat) : Nat → Nat → Nat → Prop := fun c j k => ((((False ∨ (c = 4 ∧ j = i ∧ k = 0)) ∨ (c = 4 ∧ j = i ∧ k = 1)) ∨ (c = 4 ∧ j = i ∧ k = 2)) ∨ (c = 4 ∧ j = i ∧ k = 3))
set_option maxRecDepth 100000 in
set_option maxHeartbeats 4000000 in
theorem s_Flinit {Γ : AMG} {Q : QQ} {d i : Nat} {I : II} {Lg : LJ} {R : RR} {G0 : GG} (hN : am_NK Γ) (ho : Opn G0) (hc : ∀ x, ([34, 35, 36, 0] : List Nat).elem x = true → G0.2 x = i) (hz0 : Z9 I)
    (h : ∀ (I' : II) (G' : GG), Z9 I' → FrI nD I I' → GR G0 G' (PfFl i) dnFl → Q none I' Lg R G') : am_Sp Γ (d + 3) 4 42 mX4_init [vR 4 i] I Lg R G0 Q := by
  have hI0 : GR G0 G0 (fun _ _ _ => False) (fun _ => 0) := GR.rf
  have fr0 : FrI nD I I := FrI.rf
  refine am_runN vX4_init 400 _ rfl rfl rfl rfl ?_
  refine am_cnd (am_bop (hI0.opn ho 34)) ⟨rfl, fun _ => ?_⟩
  refine And.intro ⟨rfl, (hI0.cnt (hc 34 rfl) rfl)⟩ ?_
  have hI1 := (hI0.new 34).put 4 i 0 (by decide)
  revert hI1
  generalize ((up3 (am_newG G0 34).1 4 i 0 true, (am_newG G0 34).2) : GG) = G1
  intro hI1
  refine am_cnd (am_bop (hI1.opn ho 35)) ⟨rfl, fun _ => ?_⟩
  refine And.intro ⟨rfl, (hI1.cnt (hc 35 rfl) rfl)⟩ ?_
  have hI2 := (hI1.new 35).put 4 i 1 (by decide)
  revert hI2
  generalize ((up3 (am_newG G1 35).1 4 i 1 true, (am_newG G1 35).2) : GG) = G2
  intro hI2
  refine am_cnd (am_bop (hI2.opn ho 36)) ⟨rfl, fun _ => ?_⟩
  refine And.intro ⟨rfl, (hI2.cnt (hc 36 rfl) rfl)⟩ ?_
  have hI3 := (hI2.new 36).put 4 i 2 (by decide)
  revert hI3
  generalize ((up3 (am_newG G2 36).1 4 i 2 true, (am_newG G2 36).2) : GG) = G3
  intro hI3
  refine am_cnd (am_bop (hI3.opn ho 0)) (fun _ => ?_)
  refine ar_ctor (M2 := mX0_init) (c := 0) (idx := 23) (host := "StormLoft") (k2 := 0) (n2 := 0) (k := 0) (n := 0) rfl rfl rfl ⟨(xok_at (i := 356) (by decide +kernel) (by decide +kernel)), rfl, by decide, by decide, by decide, by decide⟩ rfl rfl (nst hN (i := 354) (by decide +kernel) rfl) (xok_at (i := 355) (by decide +kernel) (by decide +kernel)) (xok_at (i := 110) (by decide +kernel) (by decide +kernel)) rfl (Nat.le_of_ble_eq_true rfl) (by decide +kernel) ?_
  refine s_Blinit hz0 (fun I1 hz1 fq1 => ?_)
  have fr1 := fr0.tr fq1
  refine am_goN vX4_init 400 ?_
  refine And.intro ⟨rfl, (hI3.cnt (hc 0 rfl) rfl)⟩ ?_
  have hI4 := (hI3.new 0).put 4 i 3 (by decide)
  revert hI4
  generalize ((up3 (am_newG G3 0).1 4 i 3 true, (am_newG G3 0).2) : GG) = G4
  intro hI4
  refine fun y2 e2 I2 f2 => ?_
  have hz2 : Z9 I2 := by rw [f2]; exact hz1.up (Or.inr e2)
  have fr2 : FrI nD I I2 := by rw [f2]; exact fr1.up rfl
  refine fun y3 e3 I3 f3 => ?_
  have hz3 : Z9 I3 := by rw [f3]; exact hz2.up (Or.inl rfl)
  have fr3 : FrI nD I I3 := by rw [f3]; exact fr2.up rfl
  refine fun y4 e4 I4 f4 => ?_
  have hz4 : Z9 I4 := by rw [f4]; exact hz3.up (Or.inr e4)
  have fr4 : FrI nD I I4 := by rw [f4]; exact fr3.up rfl
  refine fun y5 e5 I5 f5 => ?_
  have hz5 : Z9 I5 := by rw [f5]; exact hz4.up (Or.inr e5)
  have fr5 : FrI nD I I5 := by rw [f5]; exact fr4.up rfl
  exact h I5 G4 hz5 fr5 hI4
def dnCp : Nat → Nat := fun x => (((((((((0 + d1 13 x) + d1 14 x) + d1 15 x) + d1 16 x) + d1 17 x) + d1 18 x) + d1 19 x) + d1 0 x) + d1 20 x)
def PfCp : Nat → Nat → Nat → Prop := fun c j k => (((((((((False ∨ (c = 2 ∧ j = 0 ∧ k = 0)) ∨ (c = 2 ∧ j = 0 ∧ k = 1)) ∨ (c = 2 ∧ j = 0 ∧ k = 2)) ∨ (c = 2 ∧ j = 0 ∧ k = 3)) ∨ (c = 2 ∧ j = 0 ∧ k = 4)) ∨ (c = 2 ∧ j = 0 ∧ k = 5)) ∨ (c = 2 ∧ j = 0 ∧ k = 6)) ∨ (c = 2 ∧ j = 0 ∧ k = 7)) ∨ (c = 2 ∧ j = 0 ∧ k = 8))
set_option maxRecDepth 100000 in
set_option maxHeartbeats 4000000 in
theorem s_Cpinit {Γ : AMG} {Q : QQ} {d : Nat} {I : II} {Lg : LJ} {R : RR} {G0 : GG} (hN : am_NK Γ) (ho : Opn G0) (hb : G0.2 0 = 26) (hc : ∀ x, ([13, 14, 15, 16, 17, 18, 19, 20] : List Nat).elem x = true → G0.2 x = 0) (hz0 : Z9 I)
    (h : ∀ (I' : II) (G' : GG), Z9 I' → FrI nD I I' → GR G0 G' PfCp dnCp → Q none I' Lg R G') : am_Sp Γ (d + 3) 9 101 mX2_init [vR 2 0] I Lg R G0 Q := by
  have hI0 : GR G0 G0 (fun _ _ _ => False) (fun _ => 0) := GR.rf
  have fr0 : FrI nD I I := FrI.rf
  refine am_runN vX2_init 400 _ rfl rfl rfl rfl ?_
  refine am_cnd (am_bop (hI0.opn ho 13)) ⟨rfl, fun _ => ?_⟩
  refine And.intro ⟨rfl, (hI0.cnt (hc 13 rfl) rfl)⟩ ?_
  have hI1 := (hI0.new 13).put 2 0 0 (by decide)
  revert hI1
  generalize ((up3 (am_newG G0 13).1 2 0 0 true, (am_newG G0 13).2) : GG) = G1
  intro hI1
  refine am_cnd (am_bop (hI1.opn ho 14)) ⟨rfl, fun _ => ?_⟩
  refine And.intro ⟨rfl, (hI1.cnt (hc 14 rfl) rfl)⟩ ?_
  have hI2 := (hI1.new 14).put 2 0 1 (by decide)
  revert hI2
  generalize ((up3 (am_newG G1 14).1 2 0 1 true, (am_newG G1 14).2) : GG) = G2
  intro hI2
  refine am_cnd (am_bop (hI2.opn ho 15)) ⟨rfl, fun _ => ?_⟩
  refine And.intro ⟨rfl, (hI2.cnt (hc 15 rfl) rfl)⟩ ?_
  have hI3 := (hI2.new 15).put 2 0 2 (by decide)
  revert hI3
  generalize ((up3 (am_newG G2 15).1 2 0 2 true, (am_newG G2 15).2) : GG) = G3
  intro hI3
  refine am_cnd (am_bop (hI3.opn ho 16)) ⟨rfl, fun _ => ?_⟩
  refine And.intro ⟨rfl, (hI3.cnt (hc 16 rfl) rfl)⟩ ?_
  have hI4 := (hI3.new 16).put 2 0 3 (by decide)
  revert hI4
  generalize ((up3 (am_newG G3 16).1 2 0 3 true, (am_newG G3 16).2) : GG) = G4
  intro hI4
  refine am_cnd (am_bop (hI4.opn ho 17)) ⟨rfl, fun _ => ?_⟩
  refine And.intro ⟨rfl, (hI4.cnt (hc 17 rfl) rfl)⟩ ?_
  have hI5 := (hI4.new 17).put 2 0 4 (by decide)
  revert hI5
  generalize ((up3 (am_newG G4 17).1 2 0 4 true, (am_newG G4 17).2) : GG) = G5
  intro hI5
  refine am_cnd (am_bop (hI5.opn ho 18)) ⟨rfl, fun _ => ?_⟩
  refine And.intro ⟨rfl, (hI5.cnt (hc 18 rfl) rfl)⟩ ?_
  have hI6 := (hI5.new 18).put 2 0 5 (by decide)
  revert hI6
  generalize ((up3 (am_newG G5 18).1 2 0 5 true, (am_newG G5 18).2) : GG) = G6
  intro hI6
  refine am_cnd (am_bop (hI6.opn ho 19)) ⟨rfl, fun _ => ?_⟩
  refine And.intro ⟨rfl, (hI6.cnt (hc 19 rfl) rfl)⟩ ?_
  have hI7 := (hI6.new 19).put 2 0 6 (by decide)
  revert hI7
  generalize ((up3 (am_newG G6 19).1 2 0 6 true, (am_newG G6 19).2) : GG) = G7
  intro hI7
  refine am_cnd (am_bop (hI7.opn ho 0)) (fun _ => ?_)
  refine ar_ctor (M2 := mX0_init) (c := 0) (idx := 35) (host := "StormLoft") (k2 := 0) (n2 := 0) (k := 1) (n := 4) rfl rfl rfl ⟨(xok_at (i := 356) (by decide +kernel) (by decide +kernel)), rfl, by decide, by decide, by decide, by decide⟩ rfl rfl (nst hN (i := 476) (by decide +kernel) rfl) (xok_at (i := 355) (by decide +kernel) (by decide +kernel)) (xok_at (i := 110) (by decide +kernel) (by decide +kernel)) rfl (Nat.le_of_ble_eq_true rfl) (by decide +kernel) ?_
  refine s_Blinit hz0 (fun I1 hz1 fq1 => ?_)
  have fr1 := fr0.tr fq1
  refine am_goN vX2_init 400 ?_
  refine And.intro ⟨rfl, (hI7.cnt (hb) rfl)⟩ ?_
  have hI8 := (hI7.new 0).put 2 0 7 (by decide)
  revert hI8
  generalize ((up3 (am_newG G7 0).1 2 0 7 true, (am_newG G7 0).2) : GG) = G8
  intro hI8
  refine am_cnd (am_bop (hI8.opn ho 20)) ⟨rfl, fun _ => ?_⟩
  refine And.intro ⟨rfl, (hI8.cnt (hc 20 rfl) rfl)⟩ ?_
  have hI9 := (hI8.new 20).put 2 0 8 (by decide)
  revert hI9
  generalize ((up3 (am_newG G8 20).1 2 0 8 true, (am_newG G8 20).2) : GG) = G9
  intro hI9
  refine fun y2 e2 I2 f2 => ?_
  have hz2 : Z9 I2 := by rw [f2]; exact hz1.up (Or.inr e2)
  have fr2 : FrI nD I I2 := by rw [f2]; exact fr1.up rfl
  refine fun y3 e3 I3 f3 => ?_
  have hz3 : Z9 I3 := by rw [f3]; exact hz2.up (Or.inr e3)
  have fr3 : FrI nD I I3 := by rw [f3]; exact fr2.up rfl
  refine fun y4 e4 I4 f4 => ?_
  have hz4 : Z9 I4 := by rw [f4]; exact hz3.up (Or.inr e4)
  have fr4 : FrI nD I I4 := by rw [f4]; exact fr3.up rfl
  refine fun y5 e5 I5 f5 => ?_
  have hz5 : Z9 I5 := by rw [f5]; exact hz4.up (Or.inr e5)
  have fr5 : FrI nD I I5 := by rw [f5]; exact fr4.up rfl
  refine fun y6 e6 I6 f6 => ?_
  have hz6 : Z9 I6 := by rw [f6]; exact hz5.up (Or.inl rfl)
  have fr6 : FrI nD I I6 := by rw [f6]; exact fr5.up rfl
  exact h I6 G9 hz6 fr6 hI9
