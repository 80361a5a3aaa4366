/-! Constructors without loops (printed by wip/whole/genG4.py). -/
abbrev nD : Nat → Nat → Bool := fun v _ => !(isM v || Nat.beq v 91)
theorem nD_nM : ∀ v i, nM v i = false → nD v i = false := fun v i h => by
  have h1 : isM v = true := by revert h; show (!isM v) = false → _; cases isM v <;> simp
  show (!(isM v || _)) = false
  rw [h1]
  rfl
def dnTp : Nat → Nat := fun x => 0 + d1 58 x + d1 59 x
def PfTp (i : Nat) : Nat → Nat → Nat → Prop := fun c j k => ((False ∨ (c = 10 ∧ j = i ∧ k = 0)) ∨ (c = 10 ∧ j = i ∧ k = 2))
set_option maxRecDepth 100000 in
set_option maxHeartbeats 4000000 in
theorem s_Tpinit {Γ : AMG} {Q : QQ} {d i : Nat} {I : II} {Lg : LJ} {R : RR} {G : GG} (ho : Opn G) (hc : ∀ x, ([58, 59] : List Nat).elem x = true → G.2 x = i) (hz : Z9 I)
    (h : ∀ (I' : II) (G' : GG), Z9 I' → FrI nD I I' → GR G G' (PfTp i) dnTp → Q none I' Lg R G') : am_Sp Γ (d + 2) 2 650 mX10_init [vR 10 i] I Lg R G Q := by
  refine am_runN vX10_init 400 _ rfl rfl rfl rfl ?_
  refine am_cnd (am_bop (ho 58)) ⟨rfl, fun _ => ?_⟩
  refine And.intro ⟨rfl, hc 58 rfl⟩ ?_
  refine fun y1 e1 I1 f1 => ?_
  refine am_cnd (am_bop (ho 59)) ⟨rfl, fun _ => ?_⟩
  refine And.intro ⟨rfl, hc 59 rfl⟩ ?_
  refine fun y2 e2 I2 f2 => ?_
  refine fun y3 e3 I3 f3 => ?_
  refine fun y4 e4 I4 f4 => ?_
  refine fun y5 e5 I5 f5 => ?_
  refine fun y6 e6 I6 f6 => ?_
  refine fun y7 e7 I7 f7 => ?_
  refine h I7 _ (by rw [f7, f6, f5, f4, f3, f2, f1]; exact (((((((hz.up (Or.inr e1)).up (Or.inr e2)).up (Or.inr e3)).up (Or.inr e4)).up (Or.inr e5)).up (Or.inr e6)).up (Or.inr e7))) (by rw [f7, f6, f5, f4, f3, f2, f1]; exact (((((((FrI.rf.up rfl).up rfl).up rfl).up rfl).up rfl).up rfl).up rfl)) ((((GR.rf.new 58).put 10 i 0 (by decide)).new 59).put 10 i 2 (by decide))
def dnMc : Nat → Nat := fun x => 0 + d1 37 x + d1 38 x + d1 39 x + d1 40 x
def PfMc (i : Nat) : Nat → Nat → Nat → Prop := fun c j k => ((((False ∨ (c = 5 ∧ j = i ∧ k = 0)) ∨ (c = 5 ∧ j = i ∧ k = 1)) ∨ (c = 5 ∧ j = i ∧ k = 2)) ∨ (c = 5 ∧ j = i ∧ k = 3))
set_option maxRecDepth 100000 in
set_option maxHeartbeats 4000000 in
theorem s_Mcinit {Γ : AMG} {Q : QQ} {d i : Nat} {I : II} {Lg : LJ} {R : RR} {G : GG} (ho : Opn G) (hc : ∀ x, ([37, 38, 39, 40] : List Nat).elem x = true → G.2 x = i) (hz : Z9 I)
    (h : ∀ (I' : II) (G' : GG), Z9 I' → FrI nD I I' → GR G G' (PfMc i) dnMc → Q none I' Lg R G') : am_Sp Γ (d + 2) 4 48 mX5_init [vR 5 i] I Lg R G Q := by
  refine am_runN vX5_init 400 _ rfl rfl rfl rfl ?_
  refine am_cnd (am_bop (ho 37)) ⟨rfl, fun _ => ?_⟩
  refine And.intro ⟨rfl, hc 37 rfl⟩ ?_
  refine am_cnd (am_bop (ho 38)) ⟨rfl, fun _ => ?_⟩
  refine And.intro ⟨rfl, hc 38 rfl⟩ ?_
  refine am_cnd (am_bop (ho 39)) ⟨rfl, fun _ => ?_⟩
  refine And.intro ⟨rfl, hc 39 rfl⟩ ?_
  refine am_cnd (am_bop (ho 40)) ⟨rfl, fun _ => ?_⟩
  refine And.intro ⟨rfl, hc 40 rfl⟩ ?_
  refine fun y1 e1 I1 f1 => ?_
  refine h I1 _ (by rw [f1]; exact (hz.up (Or.inr e1))) (by rw [f1]; exact (FrI.rf.up rfl)) ((((((((GR.rf.new 37).put 5 i 0 (by decide)).new 38).put 5 i 1 (by decide)).new 39).put 5 i 2 (by decide)).new 40).put 5 i 3 (by decide))
