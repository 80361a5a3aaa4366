/-! Constructors: what they set and make. -/
def GR (G0 G : GG) (P : Nat → Nat → Nat → Prop) (dn : Nat → Nat) : Prop := (∀ x, G.2 x = G0.2 x + dn x) ∧ (∀ c i k, G0.1 c i k = true → G.1 c i k = true) ∧ (∀ x, G.1 1000 x 0 = G0.1 1000 x 0) ∧ ∀ c i k, P c i k → G.1 c i k = true
def d1 (t : Nat) : Nat → Nat := fun x => if x = t then 1 else 0
theorem GR.rf {G : GG} : GR G G (fun _ _ _ => False) (fun _ => 0) := ⟨fun _ => rfl, fun _ _ _ h => h, fun _ => rfl, fun _ _ _ h => h.elim⟩
theorem GR.tr {G0 G1 G2 : GG} {P1 P2 : Nat → Nat → Nat → Prop} {a b : Nat → Nat} (h : GR G0 G1 P1 a) (g : GR G1 G2 P2 b) : GR G0 G2 (fun c i k => P1 c i k ∨ P2 c i k) (fun x => a x + b x) :=
  ⟨fun x => by rw [g.1, h.1]; exact Nat.add_assoc _ _ _, fun c i k q => g.2.1 c i k (h.2.1 c i k q), fun x => (g.2.2.1 x).trans (h.2.2.1 x), fun c i k q => q.elim (fun z => g.2.1 c i k (h.2.2.2 c i k z)) (g.2.2.2 c i k)⟩
theorem GR.sub {G0 G1 : GG} {P1 P2 : Nat → Nat → Nat → Prop} {a b : Nat → Nat} (h : GR G0 G1 P1 a) (hP : ∀ c i k, P2 c i k → P1 c i k) (hab : ∀ x, a x = b x) : GR G0 G1 P2 b :=
  ⟨fun x => by rw [h.1, hab], h.2.1, h.2.2.1, fun c i k q => h.2.2.2 c i k (hP c i k q)⟩
theorem GR.new {G0 G : GG} {P : Nat → Nat → Nat → Prop} {a : Nat → Nat} (h : GR G0 G P a) (t : Nat) : GR G0 (am_newG G t) P (fun x => a x + d1 t x) :=
  ⟨fun x => by
    show up1 G.2 t (G.2 t + 1) x = G0.2 x + (a x + d1 t x)
    unfold up1 d1
    by_cases e : x = t
    · rw [if_pos e, if_pos e, e, h.1]; exact Nat.add_assoc _ _ _
    · rw [if_neg e, if_neg e, h.1]; rfl, h.2.1, h.2.2.1, h.2.2.2⟩
theorem GR.put {G0 G : GG} {P : Nat → Nat → Nat → Prop} {a : Nat → Nat} (h : GR G0 G P a) (c i f : Nat) (hc : c ≠ 1000) : GR G0 (up3 G.1 c i f true, G.2) (fun c' i' k' => P c' i' k' ∨ (c' = c ∧ i' = i ∧ k' = f)) a := by
  have hm : ∀ c' i' k', G.1 c' i' k' = true → up3 G.1 c i f true c' i' k' = true := fun c' i' k' q => by
    unfold up3
    split
    · rfl
    · exact q
  refine ⟨h.1, fun c' i' k' q => hm _ _ _ (h.2.1 _ _ _ q), fun x => ?_, fun c' i' k' q => ?_⟩
  · show up3 G.1 c i f true 1000 x 0 = _
    unfold up3
    rw [if_neg (fun z => hc z.1.symm)]
    exact h.2.2.1 x
  · rcases q with q | ⟨rfl, rfl, rfl⟩
    · exact hm _ _ _ (h.2.2.2 _ _ _ q)
    · show up3 G.1 c' i' k' true c' i' k' = true
      exact up3_s ..
/-- new cells of these kinds may be made -/
def Opn (G : GG) : Prop := ∀ x, G.1 1000 x 0 = false
theorem GR.opn {G0 G : GG} {P : Nat → Nat → Nat → Prop} {a : Nat → Nat} (h : GR G0 G P a) (ho : Opn G0) : Opn G := fun x => (h.2.2.1 x).trans (ho x)
theorem am_cnd {b : Bool} {P : Prop} (hb : b = true) (h : P) : cond b P False := by rw [hb]; exact h
theorem am_bop {x : Bool} (h : x = false) : (true && !x) = true := by rw [h]; rfl
/-- nothing but zero stands in the class's numbers, four apart -/
abbrev z9v : List Nat := [15, 20, 31, 91]
def Z9 (I : II) : Prop := ∀ v, z9v.elem v = false → ∀ i j, I v i j = zI 0
theorem Z9.up {I : II} {v i j : Nat} {x : Int32} (h : Z9 I) (hx : z9v.elem v = true ∨ x = zI 0) : Z9 (up3 I v i j x) := by
  intro v' hv i' j'
  unfold up3
  split
  · next e =>
    obtain ⟨rfl, -, -⟩ := e
    rcases hx with hx | hx
    · rw [hv] at hx; cases hx
    · exact hx
  · exact h v' hv i' j'
def dnP : Nat → Nat := fun x => 0 + d1 49 x + d1 50 x + d1 51 x
def PfP (i : Nat) : Nat → Nat → Nat → Prop := fun c j k => c = 8 ∧ j = i ∧ k < 3
set_option maxRecDepth 100000 in
theorem s_Pinit {Γ : AMG} {Q : QQ} {d i : Nat} {I : II} {Lg : LJ} {R : RR} {G : GG} (ho : Opn G) (h49 : G.2 49 = i) (h50 : G.2 50 = i) (h51 : G.2 51 = i) (hz : Z9 I)
    (h : ∀ (I' : II) (G' : GG), Z9 I' → FrI nM I I' → FrI (V0 pvars) I I' → GR G G' (PfP i) dnP → Q none I' Lg R G') : am_Sp Γ (d + 2) 3 72 mX8_init [vR 8 i] I Lg R G Q := by
  refine am_runN vX8_init 60 _ rfl rfl rfl rfl ?_
  refine am_cnd (am_bop (ho 49)) ⟨rfl, fun _ => ?_⟩
  refine And.intro ⟨rfl, h49⟩ ?_
  refine am_cnd (am_bop (ho 50)) ⟨rfl, fun _ => ?_⟩
  refine And.intro ⟨rfl, h50⟩ ?_
  refine am_cnd (am_bop (ho 51)) ⟨rfl, fun _ => ?_⟩
  refine And.intro ⟨rfl, h51⟩ ?_
  refine fun y1 e1 I1 f1 => And.intro (Or.inl rfl) (fun y2 e2 I2 f2 => ?_)
  have f : FrI (V0 pvars) I I2 := by rw [f2, f1]; exact (FrI.rf.up rfl).up rfl
  refine h I2 _ (by rw [f2, f1]; exact (hz.up (Or.inr e1)).up (Or.inr e2)) (f.mono (V0_nM (by decide))) f ?_
  refine ((((((GR.rf.new 49).put 8 i 0 (by decide)).new 50).put 8 i 1 (by decide)).new 51).put 8 i 2 (by decide)).sub (fun c j k hk => ?_) (fun _ => rfl)
  obtain ⟨q1, q2, q3⟩ := hk
  have : k = 0 ∨ k = 1 ∨ k = 2 := by omega
  rcases this with rfl | rfl | rfl
  · exact Or.inl (Or.inl (Or.inr ⟨q1, q2, rfl⟩))
  · exact Or.inl (Or.inr ⟨q1, q2, rfl⟩)
  · exact Or.inr ⟨q1, q2, rfl⟩
