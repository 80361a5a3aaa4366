/-! Worn steps, the class: a place left. -/
theorem zI_nI (a : Nat) : zI (a : Int) = nI a := Int32.ofInt_eq_ofNat
theorem zI_orN {a b : Nat} (ha : a < 2 ^ 31) (hb : b < 2 ^ 31) : zI (a : Int) ||| zI (b : Int) = zI ((a ||| b : Nat) : Int) := by
  apply Int32.toBitVec.inj
  apply BitVec.eq_of_toNat_eq
  rw [zI_nI, zI_nI, zI_nI, Int32.toBitVec_or, BitVec.toNat_or, pk_tn (by omega), pk_tn (by omega), pk_tn]
  exact Nat.or_lt_two_pow (by omega) (by omega)
theorem zI_andN {a b : Nat} (ha : a < 2 ^ 31) (hb : b < 2 ^ 31) : zI (a : Int) &&& zI (b : Int) = zI ((a &&& b : Nat) : Int) := by
  apply Int32.toBitVec.inj
  apply BitVec.eq_of_toNat_eq
  rw [zI_nI, zI_nI, zI_nI, Int32.toBitVec_and, BitVec.toNat_and, pk_tn (by omega), pk_tn (by omega), pk_tn]
  exact Nat.lt_of_le_of_lt Nat.and_le_left (by omega)
theorem zI_xorN {a b : Nat} (ha : a < 2 ^ 31) (hb : b < 2 ^ 31) : zI (a : Int) ^^^ zI (b : Int) = zI ((a ^^^ b : Nat) : Int) := by
  apply Int32.toBitVec.inj
  apply BitVec.eq_of_toNat_eq
  rw [zI_nI, zI_nI, zI_nI, Int32.toBitVec_xor, BitVec.toNat_xor, pk_tn (by omega), pk_tn (by omega), pk_tn]
  exact Nat.xor_lt_two_pow (by omega) (by omega)
theorem zI_shl {a k : Nat} (hk : k < 32) (ha : a * 2 ^ k < 2 ^ 31) : zI (a : Int) <<< (zI (k : Int) &&& 31) = zI ((a * 2 ^ k : Nat) : Int) := by
  have h1 : ∀ p : Nat, p < 32 → ((zI p &&& 31).toBitVec.smod 32).toNat = p := by decide +kernel
  rw [zI_nI a, zI_nI (a * 2 ^ k)]
  exact pk_shlN _ k (h1 k hk) (by omega)
theorem or_pow {ch p : Nat} (h : ch < 2 ^ p) : ch ||| 2 ^ p = ch + 2 ^ p := by
  have := Nat.two_pow_add_eq_or_of_lt h 1
  rw [Nat.mul_one] at this
  rw [Nat.or_comm, ← this, Nat.add_comm]
/-- a mask with one place more, or not -/
theorem mask_or {ch pl : Nat} {u : Int} (hu : u = 0 ∨ u = 1) (hp : pl < 12) (hch : ch < 2 ^ pl) : zI (ch : Int) ||| (zI u <<< (zI (pl : Int) &&& 31)) = zI ((ch + (if u = 1 then 2 ^ pl else 0) : Nat) : Int) := by
  have h2 : (2 : Nat) ^ pl ≤ 2 ^ 12 := Nat.pow_le_pow_right (by omega) (by omega)
  rcases hu with rfl | rfl
  · rw [or_zero]
    rfl
  · have := zI_shl (a := 1) (k := pl) (by omega) (by omega)
    rw [Nat.one_mul] at this
    rw [show zI 1 = zI ((1 : Nat) : Int) from rfl, this, zI_orN (by omega) (by omega), or_pow hch]
    rfl
abbrev crw7 : List Nat := [82, 83, 84, 85, 86, 87, 88]
/-- the carpenter's ball, and the rows from one on -/
def FrCp (k : Nat) (I I' : II) : Prop := ∀ v i j, (crw7.elem v = false ∨ j < k) → (bvars.elem v = false ∨ i ≠ 26) → I' v i j = I v i j
theorem FrCp.rf {k : Nat} {I : II} : FrCp k I I := fun _ _ _ _ _ => rfl
theorem FrCp.tr {k : Nat} {I I1 I2 : II} (h : FrCp k I I1) (h2 : FrCp k I1 I2) : FrCp k I I2 := fun v i j p q => (h2 v i j p q).trans (h v i j p q)
theorem FrCp.dn {k : Nat} {I I' : II} (h : FrCp (k + 1) I I') : FrCp k I I' := fun v i j p q => h v i j (p.elim Or.inl (fun z => Or.inr (by omega))) q
theorem FrK.c {l : List Nat} {k : Nat} {I I' : II} (h : FrK l k I I') (hl : l.all (fun v => crw7.elem v) = true) : FrCp k I I' := fun v i j p _ => (h.sub hl) v i j (p.elim Or.inl (fun z => Or.inr (by omega)))
theorem FrI.c {l : List Nat} {k : Nat} {I I' : II} (h : FrI (V1 l 26) I I') (hl : l.all (fun v => bvars.elem v) = true) : FrCp k I I' := fun v i j _ q => by
  have : V1 l 26 v i = false := by
    unfold V1
    rcases q with q | q
    · rw [show l.elem v = false from V0_sub (l := l) (l2 := bvars) (i := i) hl q]
      rfl
    · rw [beq_eq_false_iff_ne.mpr q, Bool.and_false]
  rw [h v i this]
def VFC : Nat → Nat → Bool := fun v i => V0 crw7 v i || V1 bvars 26 v i
theorem FrCp.fr {k : Nat} {I I' : II} (h : FrCp k I I') : FrI VFC I I' := fun v i hv => by
  funext j
  obtain ⟨q1, q2⟩ := Bool.or_eq_false_iff.mp hv
  refine h v i j (Or.inl q1) ?_
  unfold V1 at q2
  rcases Bool.and_eq_false_iff.mp q2 with q | q
  · exact Or.inl q
  · exact Or.inr (beq_eq_false_iff_ne.mp q)
theorem VFC_out {vs : List Nat} (h : vs.all (fun v => !crw7.elem v && !bvars.elem v) = true) : ∀ v ∈ vs, ∀ i, VFC v i = false := by
  intro v hv i
  have h1 := List.all_eq_true.mp h v hv
  rw [Bool.and_eq_true, Bool.not_eq_true', Bool.not_eq_true'] at h1
  unfold VFC V0 V1
  rw [h1.1, h1.2]
  rfl
theorem FrCp.row {k k2 : Nat} {I I' : II} {w : CRW} (h : FrCp k I I') (hlt : k2 < k) (hw : CRAt I k2 w) : CRAt I' k2 w := by
  obtain ⟨w1, w2, w3, w4, w5, w6⟩ := hw
  refine ⟨?_, ?_, ?_, ?_, ?_, ?_⟩ <;> rw [h _ _ _ (Or.inr hlt) (Or.inl rfl)] <;> assumption
theorem FrCp.ch {k k2 : Nat} {I I' : II} (h : FrCp k I I') (hlt : k2 < k) : I' 88 0 k2 = I 88 0 k2 := h _ _ _ (Or.inr hlt) (Or.inl rfl)
theorem PathAt.c {I I' : II} {R : RR} {r k : Nat} {rn : RUN} (h : PathAt I R r rn) (hf : FrCp k I I') : PathAt I' R r rn := h.fr hf.fr (VFC_out (by decide))
set_option maxRecDepth 100000 in
theorem s_leave {Γ : AMG} {Q : QQ} {d r bo k ch nW : Nat} {x4 x5 : Int32} {t pl p s kn sm u : Int} {I : II} {Lg : LJ} {R : RR} {gc : Nat → Nat} {b : BD} {rn : RUN} {W : Nat → Int} (hrn : RUNok rn) (hP : PathAt I R r rn) (hT : TKAt I nW W) (hb : BDok b) (hB : BoardAt I bo b) (hw : CRAt I k (t, pl, p, s, kn, sm)) (hch : I 88 0 k = zI (ch : Int)) (hx4 : x4 = zI k) (hk : k < 12) (hx5 : x5 = zI u) (hu : u = 0 ∨ u = 1) (hu0 : 0 ≤ b.2.2.2.1 - u)
    (ht : 0 ≤ t ∧ t ≤ 2000) (hpl : 0 ≤ pl ∧ pl < 12) (hp : b.1 ≤ p ∧ p ≤ b.1 + 1023) (hs : 0 ≤ s ∧ s ≤ 1023) (hkn : 0 ≤ kn ∧ kn < nW) (hchl : ch < 2 ^ pl.toNat)
    (h : ∀ I' : II, FrCp (k + 1) I I' → CRAt I' (k + 1) (leaveR rn W (t, pl, p, s, kn, sm) b t p s u) → I' 88 0 (k + 1) = zI ((ch + (if u = 1 then 2 ^ pl.toNat else 0) : Nat) : Int) → Q none I' Lg R (GM gc)) :
    am_Sp Γ (d + 2) 0 0 mX2_leave [vR 2 0, vR 7 r, vR 1 bo, vR 10 0, vI x4, vI x5] I Lg R (GM gc) Q := by
  have hnW := hT.2.1
  have h4 : x4.toInt = k := by rw [hx4, zI_toInt (by omega) (by omega)]
  have h4n : x4.toInt.toNat = k := by omega
  have g1 := hb.1
  have g2 := hb.2.1
  have hd := hb.2.2.2.2.2.2
  refine am_runN vX2_leave 4 _ rfl rfl rfl rfl ?_
  refine fun x6 ex6 => ?_
  have hx6 : x6 = zI ((k + 1 : Nat) : Int) := by rw [ex6, hx4, zI_add]; congr 1
  have h6 : x6.toInt = (k + 1 : Nat) := by rw [hx6, zI_toInt (by omega) (by omega)]
  have h6n : x6.toInt.toNat = k + 1 := by omega
  refine am_goN vX2_leave 2 ?_
  refine And.intro (fun c => ?_) (fun _ => ?_)
  · omega
  refine am_goN vX2_leave 3 ?_
  refine And.intro (fun _ => ?_) (fun c => ?_)
  · refine am_goN vX2_leave 3 ?_
    refine s_cload hw hx4 (by omega) (fun I1 f1 b1 => ?_)
    have C1 : FrCp (k + 1) I I1 := FrI.c f1 (by decide)
    have row1 := C1.row (k2 := k) (by omega) hw
    refine am_goN vX2_leave 8 ?_
    refine And.intro ⟨by omega, by omega⟩ ?_
    refine And.intro ⟨by omega, by omega⟩ ?_
    rw [h4n, h6n]
    refine fun y2 ey2 I2 e2 => ?_
    refine am_goN vX2_leave 10 ?_
    refine And.intro ⟨by omega, by omega⟩ ?_
    refine And.intro ⟨by omega, by omega⟩ ?_
    rw [h4n, h6n]
    refine fun y3 ey3 I3 e3 => ?_
    refine am_goN vX2_leave 15 ?_
    refine And.intro ⟨by omega, by omega⟩ ?_
    refine And.intro ⟨by omega, by omega⟩ ?_
    refine And.intro ⟨by omega, by omega⟩ ?_
    rw [h4n, h6n]
    refine fun y4 ey4 I4 e4 => ?_
    have K4 : FrK [86, 87, 88] (k + 1) I1 I4 := by rw [e4, e3, e2]; exact ((FrK.rf.up rfl).up rfl).up rfl
    have C4 : FrCp (k + 1) I I4 := C1.tr (K4.c (by decide))
    have hK : ∀ v, v ≠ 86 → v ≠ 87 → v ≠ 88 → I4 v 0 = I1 v 0 := fun v q1 q2 q3 => by rw [e4, up3_v _ q3, e3, up3_v _ q2, e2, up3_v _ q1]
    have kn4 : I4 86 0 (k + 1) = zI kn := by rw [e4, up3_v _ (by decide), e3, up3_v _ (by decide), e2, up3_s, ey2]; exact row1.2.2.2.2.1
    have sm4 : I4 87 0 (k + 1) = zI (sm + u) := by
      rw [e4, up3_v _ (by decide), e3, up3_s, ey3, e2, up3_v _ (by decide), hx5]
      rw [show I1 87 0 k = zI sm from row1.2.2.2.2.2, zI_add]
    have ch4 : I4 88 0 (k + 1) = zI ((ch + (if u = 1 then 2 ^ pl.toNat else 0) : Nat) : Int) := by
      rw [e4, up3_s, ey4, e3, up3_v _ (by decide), e2, up3_v _ (by decide), up3_v _ (by decide), up3_v _ (by decide), C1.ch (by omega), hch, hx5]
      rw [show I1 83 0 k = zI pl from row1.2.1, ← mask_or hu (by omega) hchl, show ((pl.toNat : Nat) : Int) = pl by omega]
    have b4 : BallAt I4 26 (pl, p, s, pl, p) := b1.fr K4.fr (fun v hv => V0_outI (by decide) v hv 26)
    have bd4 : BoardAt I4 bo b := hB.fr C4.fr (VFC_out (by decide))
    have row4 := C4.row (k2 := k) (by omega) hw
    have hxd : I4 9 bo 0 - x5 = zI (b.2.2.2.1 - u) := by rw [bd4.2.2.2.1, hx5, zI_sub]
    have hkr := dr_rng (dr := b.2.2.2.1 - u) hu0 (by omega) hs.1 hs.2
    have hKr : 0 ≤ lvK (b.2.2.2.1 - u) s ∧ lvK (b.2.2.2.1 - u) s ≤ 1000 := by unfold lvK; omega
    refine am_goN vX2_leave 9 ?_
    refine s_falls (dr := b.2.2.2.1 - u) hb bd4 b4 hs.1 hs.2 (by show 0 ≤ p; omega) (by show p ≤ 1000000; omega) hu0 (by omega) hxd (fun I5 f5 b5 => ?_)
    have C5 : FrCp (k + 1) I I5 := C4.tr (FrI.c f5 (by decide))
    have row5 := C5.row (k2 := k) (by omega) hw
    have T5 : TKAt I5 nW W := hT.fr C5.fr rfl rfl
    have f5o : ∀ v ∈ [86, 87, 88], I5 v 0 = I4 v 0 := fun v hv => f5 _ _ (V1_out (vs := [86, 87, 88]) (by decide) _ hv _)
    have kn5 : I5 86 0 (k + 1) = zI kn := by rw [f5o _ (by decide)]; exact kn4
    have hls := lvS_rng hb hs.1
    have hlp := lvP_rng (p := p) hb hu0 (by omega) hs.1 hs.2 hp.1 (by omega)
    -- the ball is carried on, the row is stored
    have k143 : ∀ (l7 : Option AV) (I6 : II) (kn' : Int), FrK [86] (k + 1) I5 I6 → I6 86 0 (k + 1) = zI kn' → kn' = (if 0 < lvK (b.2.2.2.1 - u) s ∧ t = W kn.toNat then kn + 1 else kn) →
        am_J Γ mX2_leave Q (d + 2) 0 0 143 [some (vR 2 0), some (vR 7 r), some (vR 1 bo), some (vR 10 0), some (vI x4), some (vI x5), some (vI x6), l7] [] I6 Lg R (GM gc) := by
      intro l7 I6 kn' K6 hk6 hkn'
      have C6 : FrCp (k + 1) I I6 := C5.tr (K6.c (by decide))
      have b6 : BallAt I6 26 (pl, lvP b (b.2.2.2.1 - u) p s, lvS b s, pl, p) := b5.fr K6.fr (fun v hv => V0_outI (by decide) v hv 26)
      refine am_goN vX2_leave 6 ?_
      refine s_carryOn hrn (hP.c C6) b6 hpl.1 (by show pl ≤ 255; omega) hlp.1 (by show lvP b (b.2.2.2.1 - u) p s ≤ 1000000; omega) (fun I7 f7 b7 => ?_)
      have C7 : FrCp (k + 1) I I7 := C6.tr (FrI.c f7 (by decide))
      have row7 := C7.row (k2 := k) (by omega) hw
      refine am_goN vX2_leave 7 ?_
      refine And.intro ⟨by omega, by omega⟩ ?_
      rw [h4n]
      refine s_cstore b7 hx6 (by omega) row7.1 (fun I8 K8 q1 q2 q3 q4 => ?_)
      refine am_goN vX2_leave 3 ?_
      have f7o : ∀ v ∈ [86, 87, 88], I7 v 0 = I6 v 0 := fun v hv => f7 _ _ (V1_out (vs := [86, 87, 88]) (by decide) _ hv _)
      refine h I8 (C7.tr (K8.c (by decide))) ⟨q1, q2, q3, q4, ?_, ?_⟩ ?_
      · rw [K8 _ _ _ (Or.inl rfl), f7o _ (by decide), hk6, hkn']
        rfl
      · rw [K8 _ _ _ (Or.inl rfl), f7o _ (by decide), K6 _ _ _ (Or.inl rfl), f5o _ (by decide), sm4]
        rfl
      · rw [K8 _ _ _ (Or.inl rfl), f7o _ (by decide), K6 _ _ _ (Or.inl rfl), f5o _ (by decide), ch4]
    refine And.intro (fun c6 => ?_) (fun c6 => ?_)
    · have c6 : (zI (lvK (b.2.2.2.1 - u) s)).toInt ≤ 0 := c6
      rw [zI_toInt (by omega) (by omega)] at c6
      refine am_goN vX2_leave 2 ?_
      refine fun x7 ex7 => ?_
      refine am_goN vX2_leave 2 ?_
      refine And.intro (fun _ => ?_) (fun c7 => ?_)
      · exact k143 _ I5 kn FrK.rf kn5 (by rw [if_neg (fun z => by have := z.1; omega)])
      · rw [ex7] at c7
        exact absurd rfl c7
    · have c6 : 0 < (zI (lvK (b.2.2.2.1 - u) s)).toInt := c6
      rw [zI_toInt (by omega) (by omega)] at c6
      refine am_goN vX2_leave 3 ?_
      refine fun x7 ex7 => ?_
      refine am_goN vX2_leave 2 ?_
      refine And.intro (fun c7 => ?_) (fun _ => ?_)
      · rw [ex7, zI_toInt (by omega) (by omega)] at c7
        omega
      refine am_goN vX2_leave 11 ?_
      refine And.intro ⟨by omega, by omega⟩ ?_
      refine And.intro ⟨by omega, by omega⟩ ?_
      rw [h4n]
      have hWk := T5.2.2.2 kn.toNat
      have tk5 : (I5 82 0 k).toInt = t := by rw [row5.1, zI_toInt (by omega) (by omega)]
      refine s_tickAt T5 row5.2.2.2.2.1 ⟨hkn.1, by show kn ≤ 1000; omega⟩ ?_
      have hif : (if ((t, pl, p, s, kn, sm) : CRW).2.2.2.2.1 < nW then W ((t, pl, p, s, kn, sm) : CRW).2.2.2.2.1.toNat else -1) = W kn.toNat := if_pos hkn.2
      rw [hif]
      refine And.intro (fun c8 => ?_) (fun c8 => ?_)
      · have c8 : (I5 82 0 k).toInt ≠ (zI (W kn.toNat)).toInt := c8
        rw [tk5, zI_toInt (by omega) (by omega)] at c8
        exact k143 _ I5 kn FrK.rf kn5 (by rw [if_neg (fun z => c8 z.2)])
      · have c8 : (I5 82 0 k).toInt = (zI (W kn.toNat)).toInt := c8
        rw [tk5, zI_toInt (by omega) (by omega)] at c8
        refine am_goN vX2_leave 8 ?_
        refine And.intro ⟨by omega, by omega⟩ ?_
        refine And.intro ⟨by omega, by omega⟩ ?_
        rw [h6n]
        refine fun y6 ey6 I6 e6 => ?_
        refine k143 _ I6 (kn + 1) (by rw [e6]; exact FrK.rf.up rfl) ?_ (by rw [if_pos ⟨c6, c8⟩])
        rw [e6, up3_s, ey6, kn5, zI_add]
  · rw [h6, zI_toInt (by omega) (by omega)] at c
    omega
