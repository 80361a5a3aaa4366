/-! Constructors with objects and rows of references (printed by wip/whole/genG6.py). -/
def isNest : Cond → Bool
  | .methodLinkNest .. => true
  | .arrayOver _ => true
  | _ => false
/-- what the start tells of private constructors -/
def am_NK (Γ : AMG) : Prop := ∀ U, Γ.KX U → ∀ w ∈ lw_tbl, isNest w = true → va_Nw w U
theorem nst {Γ : AMG} (hN : am_NK Γ) {w : Cond} {i : Nat} (h : lw_tbl[i]? = some w) (hn : isNest w = true) : ∀ U, Γ.KX U → va_Nw w U := fun U hU => hN U hU w (List.mem_of_getElem? h) hn
theorem amok {M : MD} (w : Nat) (h : am_mck M = true) (h5 : am_at w (.code M.2.1 M.2.2.1 M.2.2.2.1 M.2.2.2.2.1) = true) : am_Mok M := am_mck_ok h h5
section CTOR
variable {Γ : AMG} {M M2 : MD} {Q : QQ} {d k n k2 n2 k' n' pc : Nat} {L : LL} {st rest : List AV} {I : II} {Lg : LJ} {R : RR} {G : GG}
theorem ar_ctor {c i idx : Nat} {host : String} (hst : st = vR c i :: rest) (hk : k' = k2 + k) (hn : n' = n2 + n) (hok : am_Mok M2) (hni : M2.2.1.name = "<init>") (hrt : M2.2.2.2.2.1 = none) (h1 : ∀ U, Γ.KX U → va_Nw (.methodLinkNest M.1 idx M2.2.1 host) U) (h2 : Cond.instanceMethod M2.2.1 ∈ am_BIG) (h4 : Cond.initialized M2.1 ∈ am_BIG)
    (hlen : 0 = M2.2.2.2.2.2) (hcat : am_cats rest ≤ 8) (hd : decode M.2.2.1 pc = .ok (.invokespecial idx, 3)) (h : am_Sp Γ d k2 n2 M2 [vR c i] I Lg R G (fun r I' Lg' R' G' => am_J Γ M Q (d + 1) k n (pc + 3) L (r.toList ++ rest) I' Lg' R' G')) : am_J Γ M Q (d + 1) k' n' pc L st I Lg R G := by
  subst hk; subst hn
  exact ar_invN (As := []) hst hok hni hrt h1 h2 h4 hlen hcat hd h
end CTOR
theorem GR.cnt {G0 G : GG} {P : Nat → Nat → Nat → Prop} {a : Nat → Nat} (h : GR G0 G P a) {t i : Nat} (h0 : G0.2 t = i) (hz : a t = 0) : G.2 t = i := by rw [h.1, h0, hz]; rfl
set_option maxRecDepth 100000 in
theorem s_Blinit {Γ : AMG} {Q : QQ} {d i : Nat} {I : II} {Lg : LJ} {R : RR} {G : GG} (hz : Z9 I)
    (h : ∀ (I' : II), Z9 I' → FrI nD I I' → Q none I' Lg R G) : am_Sp Γ (d + 2) 0 0 mX0_init [vR 0 i] I Lg R G Q := by
  refine am_runN vX0_init 400 _ rfl rfl rfl rfl ?_
  refine fun y1 e1 I1 f1 y2 e2 I2 f2 y3 e3 I3 f3 y4 e4 I4 f4 y5 e5 I5 f5 y6 e6 I6 f6 => ?_
  refine h I6 (by rw [f6, f5, f4, f3, f2, f1]; exact ((((((hz.up (Or.inr e1)).up (Or.inr e2)).up (Or.inr e3)).up (Or.inr e4)).up (Or.inr e5)).up (Or.inr e6))) (by rw [f6, f5, f4, f3, f2, f1]; exact ((((((FrI.rf.up rfl).up rfl).up rfl).up rfl).up rfl).up rfl))
def dnPt : Nat → Nat := fun x => 0 + d1 46 x + d1 47 x + d1 48 x
def PfPt (i : Nat) : Nat → Nat → Nat → Prop := fun c j k => ((False ∨ (c = 7 ∧ j = i ∧ k = 0)) ∨ (c = 7 ∧ j = i ∧ k = 1)) ∨ (c = 7 ∧ j = i ∧ k = 2)
set_option maxRecDepth 100000 in
theorem s_Ptinit {Γ : AMG} {Q : QQ} {d i : Nat} {I : II} {Lg : LJ} {R : RR} {G0 : GG} (hN : am_NK Γ) (ho : Opn G0) (hc : ∀ x, ([46, 47, 48] : List Nat).elem x = true → G0.2 x = i) (hz0 : Z9 I)
    (h : ∀ (I' : II) (G' : GG), Z9 I' → FrI nD I I' → GR G0 G' (PfPt i) dnPt → Q none I' Lg R G') : am_Sp Γ (d + 2) 3 36 mX7_init [vR 7 i] I Lg R G0 Q := by
  have hI0 : GR G0 G0 (fun _ _ _ => False) (fun _ => 0) := GR.rf
  have fr0 : FrI nD I I := FrI.rf
  refine am_runN vX7_init 400 _ rfl rfl rfl rfl ?_
  refine ar_anew (c := 46) (a := 4) (N := 12) (x := 1) (y := 1) (t := 3) (idx := 9) (C := "StormLoft$Board") (k := 2) (n := 24) (hI0.opn ho 46) rfl ⟨by decide, by decide⟩ rfl (by decide) (xok_at (i := 526) (by decide +kernel) (by decide +kernel)) (nst hN (i := 177) (by decide +kernel) rfl) (by decide +kernel) (fun _ => ?_)
  refine am_goN vX7_init 400 ?_
  refine And.intro ⟨rfl, (hI0.cnt (hc 46 rfl) rfl)⟩ ?_
  have hI1 := (hI0.new 46).put 7 i 0 (by decide)
  revert hI1
  generalize ((up3 (am_newG G0 46).1 7 i 0 true, (am_newG G0 46).2) : GG) = G1
  intro hI1
  refine am_cnd (am_bop (hI1.opn ho 47)) ⟨rfl, fun _ => ?_⟩
  refine And.intro ⟨rfl, (hI1.cnt (hc 47 rfl) rfl)⟩ ?_
  have hI2 := (hI1.new 47).put 7 i 1 (by decide)
  revert hI2
  generalize ((up3 (am_newG G1 47).1 7 i 1 true, (am_newG G1 47).2) : GG) = G2
  intro hI2
  refine am_cnd (am_bop (hI2.opn ho 48)) ⟨rfl, fun _ => ?_⟩
  refine And.intro ⟨rfl, (hI2.cnt (hc 48 rfl) rfl)⟩ ?_
  have hI3 := (hI2.new 48).put 7 i 2 (by decide)
  revert hI3
  generalize ((up3 (am_newG G2 48).1 7 i 2 true, (am_newG G2 48).2) : GG) = G3
  intro hI3
  refine fun y1 e1 I1 f1 => ?_
  have hz1 : Z9 I1 := by rw [f1]; exact hz0.up (Or.inr e1)
  have fr1 : FrI nD I I1 := by rw [f1]; exact fr0.up rfl
  exact h I1 G3 hz1 fr1 hI3
