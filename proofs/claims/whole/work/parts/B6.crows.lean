/-! The carpenter's rows. -/
/-- at a row: tick, place, part, speed, knocks, sum -/
abbrev CRW : Type := Int × Int × Int × Int × Int × Int
def CRAt (I : II) (k : Nat) (w : CRW) : Prop := I 82 0 k = zI w.1 ∧ I 83 0 k = zI w.2.1 ∧ I 84 0 k = zI w.2.2.1 ∧ I 85 0 k = zI w.2.2.2.1 ∧ I 86 0 k = zI w.2.2.2.2.1 ∧ I 87 0 k = zI w.2.2.2.2.2
/-- all is as it was but for some variables at one place -/
def FrK (l : List Nat) (k : Nat) (I I' : II) : Prop := ∀ v i j, (l.elem v = false ∨ j ≠ k) → I' v i j = I v i j
theorem FrK.rf {l : List Nat} {k : Nat} {I : II} : FrK l k I I := fun _ _ _ _ => rfl
theorem FrK.tr {l : List Nat} {k : Nat} {I I1 I2 : II} (h : FrK l k I I1) (h2 : FrK l k I1 I2) : FrK l k I I2 := fun v i j q => (h2 v i j q).trans (h v i j q)
theorem FrK.up {l : List Nat} {k v i : Nat} {x : Int32} {I I1 : II} (h : FrK l k I I1) (hv : l.elem v = true) : FrK l k I (up3 I1 v i k x) := fun v' i' j' q => by
  rw [← h v' i' j' q]
  unfold up3
  rw [if_neg]
  rintro ⟨rfl, -, rfl⟩
  rcases q with q | q
  · rw [hv] at q; cases q
  · exact q rfl
theorem FrK.fr {l : List Nat} {k : Nat} {I I' : II} (h : FrK l k I I') : FrI (V0 l) I I' := fun v i hv => by
  funext j
  exact h v i j (Or.inl hv)
abbrev crw4 : List Nat := [82, 83, 84, 85]
abbrev crw6 : List Nat := [82, 83, 84, 85, 86, 87]
theorem FrK.sub {l l2 : List Nat} {k : Nat} {I I' : II} (h : FrK l k I I') (hl : l.all (fun v => l2.elem v) = true) : FrK l2 k I I' := fun v i j q => h v i j (q.elim (fun z => Or.inl (V0_sub (i := i) hl z)) Or.inr)
set_option maxRecDepth 100000 in
theorem s_cstore {Γ : AMG} {Q : QQ} {d k : Nat} {x1 x2 : Int32} {t : Int} {I : II} {Lg : LJ} {R : RR} {gc : Nat → Nat} {l : BL} (hL : BallAt I 26 l) (hx1 : x1 = zI k) (hk : k < 13) (hx2 : x2 = zI t)
    (h : ∀ I' : II, FrK crw4 k I I' → I' 82 0 k = zI t → I' 83 0 k = zI l.1 → I' 84 0 k = zI l.2.1 → I' 85 0 k = zI l.2.2.1 → Q none I' Lg R (GM gc)) : am_Sp Γ d 0 0 mX2_store [vR 2 0, vI x1, vI x2] I Lg R (GM gc) Q := by
  obtain ⟨l1, l2, l3, -, -⟩ := hL
  have h1 : x1.toInt = k := by rw [hx1, zI_toInt (by omega) (by omega)]
  have h1n : x1.toInt.toNat = k := by omega
  refine am_runN vX2_store 3 _ rfl rfl rfl rfl ?_
  refine And.intro (fun c => ?_) (fun c => ?_)
  · omega
  refine am_goN vX2_store 3 ?_
  refine And.intro (fun c => ?_) (fun c => ?_)
  · rw [h1, zI_toInt (by omega) (by omega)] at c
    omega
  refine am_goN vX2_store 5 ?_
  refine And.intro ⟨by omega, by omega⟩ ?_
  rw [h1n]
  refine fun y1 ey1 I1 e1 => ?_
  refine am_goN vX2_store 7 ?_
  refine And.intro ⟨by omega, by omega⟩ ?_
  rw [h1n]
  refine fun y2 ey2 I2 e2 => ?_
  refine am_goN vX2_store 7 ?_
  refine And.intro ⟨by omega, by omega⟩ ?_
  rw [h1n]
  refine fun y3 ey3 I3 e3 => ?_
  refine am_goN vX2_store 20 ?_
  refine And.intro ⟨by omega, by omega⟩ ?_
  rw [h1n]
  refine fun y4 ey4 I4 e4 => ?_
  refine h I4 ?_ ?_ ?_ ?_ ?_
  · rw [e4, e3, e2, e1]
    exact (((FrK.rf.up rfl).up rfl).up rfl).up rfl
  · rw [e4, up3_v _ (by decide), e3, up3_v _ (by decide), e2, up3_v _ (by decide), e1, up3_s, ey1, hx2]
  · rw [e4, up3_v _ (by decide), e3, up3_v _ (by decide), e2, up3_s, ey2, e1, up3_v _ (by decide), l1]
  · rw [e4, up3_v _ (by decide), e3, up3_s, ey3, e2, up3_v _ (by decide), e1, up3_v _ (by decide), l2]
  · rw [e4, up3_s, ey4, e3, up3_v _ (by decide), e2, up3_v _ (by decide), e1, up3_v _ (by decide), l3]
set_option maxRecDepth 100000 in
theorem s_cload {Γ : AMG} {Q : QQ} {d k : Nat} {x1 : Int32} {I : II} {Lg : LJ} {R : RR} {gc : Nat → Nat} {w : CRW} (hw : CRAt I k w) (hx1 : x1 = zI k) (hk : k < 13)
    (h : ∀ I' : II, FrI (V1 bvars 26) I I' → BallAt I' 26 (w.2.1, w.2.2.1, w.2.2.2.1, w.2.1, w.2.2.1) → Q none I' Lg R (GM gc)) : am_Sp Γ (d + 1) 0 0 mX2_load [vR 2 0, vI x1] I Lg R (GM gc) Q := by
  obtain ⟨w1, w2, w3, w4, -, -⟩ := hw
  have h1 : x1.toInt = k := by rw [hx1, zI_toInt (by omega) (by omega)]
  have h1n : x1.toInt.toNat = k := by omega
  refine am_runN vX2_load 3 _ rfl rfl rfl rfl ?_
  refine And.intro (fun c => ?_) (fun c => ?_)
  · omega
  refine am_goN vX2_load 3 ?_
  refine And.intro (fun c => ?_) (fun c => ?_)
  · rw [h1, zI_toInt (by omega) (by omega)] at c
    omega
  refine am_goN vX2_load 20 ?_
  refine And.intro ⟨by omega, by omega⟩ ?_
  refine And.intro ⟨by omega, by omega⟩ ?_
  refine And.intro ⟨by omega, by omega⟩ ?_
  rw [h1n]
  exact s_bput w2 w3 w4 (fun I' f' b' => h I' f' b')
/-- a board passed: tick, part, speed, knocks, sum behind it -/
def lay1 (b : BD) (nW : Nat) (W : Nat → Int) (w : CRW) : Option CRW :=
  if b.1 ≤ w.2.2.1 then some (w.1, w.2.1, w.2.2.1 - b.1, w.2.2.2.1, w.2.2.2.2.1, w.2.2.2.2.2) else
  match rolE b (2000 - w.1).toNat w.1 w.2.2.1 w.2.2.2.1 with
  | none => none
  | some (t, p, s) => if 0 < lvK b.2.2.2.1 s then some (t, w.2.1, lvP b b.2.2.2.1 p s, lvS b s, w.2.2.2.2.1 + 1, w.2.2.2.2.2 + (if w.2.2.2.2.1 < nW then ((t - W w.2.2.2.2.1.toNat).natAbs : Int) else 100)) else some (t, w.2.1, lvP b b.2.2.2.1 p s, lvS b s, w.2.2.2.2.1, w.2.2.2.2.2)
