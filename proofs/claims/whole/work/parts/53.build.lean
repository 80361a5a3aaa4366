/-! A run is built: the class. -/
/-- the boards of the stock -/
def StockAt (I : II) (R : RR) (bd : List BD) : Prop := I 46 0 0 = zI bd.length ∧ ∀ (k : Nat) (x : BD), bd[k]? = some x → ∃ bo : Nat, R 2 0 k = some bo ∧ BoardAt I bo x
def BDsok (bd : List BD) : Prop := bd.length ≤ 16 ∧ ∀ (k : Nat) (x : BD), bd[k]? = some x → BDok x
def bdA (bd : List BD) (k : Int) : BD := (bd[k.toNat]?).getD (64, 0, 0, 0, 0)
def rnOf (bd : List BD) (bs : Nat → Int) (n : Nat) : RUN := (List.range n).map (fun p => (bdA bd (bs (3 * p)), bs (3 * p + 1), bs (3 * p + 2)))
theorem rnOf_get {bd : List BD} {bs : Nat → Int} {n p : Nat} (h : p < n) : (rnOf bd bs n)[p]? = some (bdA bd (bs (3 * p)), bs (3 * p + 1), bs (3 * p + 2)) := by
  unfold rnOf
  rw [List.getElem?_map, List.getElem?_range h]
  rfl
theorem rnOf_len {bd : List BD} {bs : Nat → Int} {n : Nat} : (rnOf bd bs n).length = n := by unfold rnOf; rw [List.length_map, List.length_range]
theorem BoardAt.fb {I I' : II} {b : Nat} {x : BD} {P : Nat → Nat → Bool} (h : BoardAt I b x) (hf : FrI P I I') (hP : ∀ v ∈ [6, 7, 8, 9, 10], ∀ i, P v i = false) : BoardAt I' b x := by
  obtain ⟨h1, h2, h3, h4, h5⟩ := h
  refine ⟨?_, ?_, ?_, ?_, ?_⟩ <;> rw [hf _ _ (hP _ (by decide) _)] <;> assumption
def FrR (r : Nat) (R R' : RR) : Prop := ∀ v i, (v ≠ 1 ∨ i ≠ r) → R' v i = R v i
theorem bdA_get {bd : List BD} {k : Int} (h0 : 0 ≤ k) (h1 : k < bd.length) : bd[k.toNat]? = some (bdA bd k) := by
  unfold bdA
  rw [List.getElem?_eq_getElem (by omega)]
  rfl
set_option maxRecDepth 100000 in
theorem build_loop {Γ : AMG} {Q : QQ} {d r : Nat} {I : II} {Lg : LJ} {R : RR} {gc : Nat → Nat} {sz : Nat} {bs : Nat → Int} {bd : List BD} (hb : BSsok sz bs) (ht : TapeAt I sz bs) (hbd : BDsok bd) (hst : StockAt I R bd) (hok : runOk sz bs bd.length)
    (h : ∀ (I' : II) (R' : RR), FrI (V1 [32, 113, 114] r) I I' → FrR r R R' → PathAt I' R' r (rnOf bd bs (sz / 3)) → Q none I' Lg R' (GM gc)) :
    ∀ (m k : Nat) (x3 : Int32) (l4 : Option AV) (I1 : II) (R1 : RR), k + m = sz / 3 → x3 = zI k → FrI (V1 [32, 113, 114] r) I I1 → FrR r R R1 → I1 32 r 0 = zI (sz / 3 : Nat) →
      (∀ p, p < k → (∃ b : Nat, R1 1 r p = some b ∧ BoardAt I b (bdA bd (bs (3 * p)))) ∧ I1 113 r p = zI (bs (3 * p + 1)) ∧ I1 114 r p = zI (bs (3 * p + 2))) →
      am_J Γ mX7_build Q (d + 1) 0 0 17 [some (vR 7 r), some (vR 10 0), some (vR 60 0), some (vI x3), l4] [] I1 Lg R1 (GM gc) := by
  have h12 := hok.2.2.1
  have hbl := hbd.1
  intro m
  induction m with
  | zero =>
    intro k x3 l4 I1 R1 hk hx3 hf hfr hs hi
    have hst' : (I1 32 r 0).toInt = (sz / 3 : Nat) := by rw [hs, zI_toInt (by omega) (by omega)]
    refine am_goN vX7_build 80 ?_
    refine And.intro (fun c => ?_) (fun c => ?_)
    · refine h I1 R1 hf hfr ⟨by rw [rnOf_len]; exact hs, fun p e he => ?_⟩
      have hp := (List.getElem?_eq_some_iff.mp he).1
      rw [rnOf_len] at hp
      rw [rnOf_get hp] at he
      cases he
      obtain ⟨⟨b, q1, q2⟩, q3, q4⟩ := hi p (by omega)
      exact ⟨⟨b, q1, q2.fb hf (V1_out (by decide))⟩, q3, q4⟩
    · rw [hx3, hst', zI_toInt (by omega) (by omega)] at c
      omega
  | succ m ih =>
    intro k x3 l4 I1 R1 hk hx3 hf hfr hs hi
    have hst' : (I1 32 r 0).toInt = (sz / 3 : Nat) := by rw [hs, zI_toInt (by omega) (by omega)]
    have hx3t : x3.toInt = k := by rw [hx3, zI_toInt (by omega) (by omega)]
    have hx3n : x3.toInt.toNat = k := by rw [hx3t]; omega
    have b0 := hb.2 (3 * k)
    obtain ⟨o1, -, -⟩ := hok.2.2.2 k (by omega)
    obtain ⟨bo, hR, hBo⟩ := hst.2 _ _ (bdA_get b0.1 o1)
    refine am_J.er [true, true, true, true, false] ?_
    refine am_goN vX7_build 80 ?_
    refine And.intro (fun c => ?_) (fun c => ?_)
    · rw [hx3t, hst'] at c
      omega
    refine s_byteAtE (k := 3 * k) hb (ht.fr hf rfl rfl) (by rw [hx3, zI_mul]; congr 1) (by omega) ?_
    refine fun x4 ex4 => ?_
    have hx4t : x4.toInt = bs (3 * k) := by rw [ex4, zI_toInt (by omega) (by omega)]
    refine And.intro (fun c => ?_) (fun c => ?_)
    · rw [hx4t, zI_toInt (by omega) (by omega)] at c
      omega
    refine And.intro ⟨by omega, by omega⟩ ?_
    have hRb : R1 2 0 x4.toInt.toNat = some bo := by rw [hfr _ _ (Or.inl (by decide)), hx4t]; exact hR
    refine And.intro (fun q => ?_) (fun b q => ?_)
    · rw [hRb] at q
      cases q
    rw [hRb] at q
    cases q
    refine And.intro ⟨by omega, by omega⟩ ?_
    refine And.intro rfl ?_
    refine s_byteAtE (k := 3 * k + 1) hb (ht.fr hf rfl rfl) (by rw [hx3, zI_mul, zI_add]; congr 1) (by omega) ?_
    refine And.intro ⟨by omega, by omega⟩ ?_
    refine fun y1 ey1 I2 e2 => ?_
    have hf2 : FrI (V1 [32, 113, 114] r) I I2 := by rw [e2]; exact hf.up (V1_in rfl)
    refine s_byteAtE (k := 3 * k + 2) hb (ht.fr hf2 rfl rfl) (by rw [hx3, zI_mul, zI_add]; congr 1) (by omega) ?_
    refine And.intro ⟨by omega, by omega⟩ ?_
    refine fun y2 ey2 I3 e3 x3' ex3 => ?_
    have hf3 : FrI (V1 [32, 113, 114] r) I I3 := by rw [e3]; exact hf2.up (V1_in rfl)
    rw [hx3n] at e2 e3
    refine ih (k + 1) x3' _ I3 _ (by omega) (by rw [ex3, hx3, zI_add]; congr 1) hf3 ?_ (by rw [e3, up3_v _ (by decide), e2, up3_v _ (by decide)]; exact hs) ?_
    · intro v i hv
      rw [← hfr v i hv]
      by_cases e : v = 1
      · subst e
        exact up3_i _ (by omega)
      · rw [up3_v _ e]
    · intro p hp
      rw [hx3n]
      by_cases hpk : p = k
      · subst hpk
        refine ⟨⟨bo, by rw [up3_s], hBo⟩, ?_, ?_⟩
        · rw [e3, up3_v _ (by decide), e2, up3_s, ey1]
        · rw [e3, up3_s, ey2]
      · obtain ⟨⟨b, q1, q2⟩, q3, q4⟩ := hi p (by omega)
        refine ⟨⟨b, by rw [up3_j _ hpk]; exact q1, q2⟩, ?_, ?_⟩
        · rw [e3, up3_v _ (by decide), e2, up3_j _ hpk]; exact q3
        · rw [e3, up3_j _ hpk, e2, up3_v _ (by decide)]; exact q4
set_option maxRecDepth 100000 in
theorem s_build {Γ : AMG} {Q : QQ} {d r : Nat} {I : II} {Lg : LJ} {R : RR} {gc : Nat → Nat} {sz : Nat} {bs : Nat → Int} {bd : List BD} (hb : BSsok sz bs) (ht : TapeAt I sz bs) (hbd : BDsok bd) (hst : StockAt I R bd) (hok : runOk sz bs bd.length)
    (h : ∀ (I' : II) (R' : RR), FrI (V1 [32, 113, 114] r) I I' → FrR r R R' → PathAt I' R' r (rnOf bd bs (sz / 3)) → Q none I' Lg R' (GM gc)) :
    am_Sp Γ (d + 1) 0 0 mX7_build [vR 7 r, vR 10 0, vR 60 0] I Lg R (GM gc) Q := by
  have hsz := hb.1
  have h12 := hok.2.2.1
  refine am_runN vX7_build 60 _ rfl rfl rfl rfl ?_
  refine And.intro (by rw [zI_toInt (by omega) (by omega)]; omega) ?_
  refine fun y1 ey1 I1 e1 x3 ex3 => ?_
  refine build_loop hb ht hbd hst hok h (sz / 3) 0 x3 _ I1 R (by omega) ex3 (by rw [e1]; exact FrI.rf.up (V1_in rfl)) (fun v i hv => rfl) ?_ (fun p hp => by omega)
  rw [e1, up3_s, ey1, ht.1, zI_divN (by omega) (by omega) (by omega) (by omega), am_min_z (by omega) (by omega) (by omega) (by omega)]
  congr 1
  omega
