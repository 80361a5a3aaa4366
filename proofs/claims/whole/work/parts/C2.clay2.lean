/-! The carpenter begins, and lays the likest. -/
theorem any_ball (I : II) (b : Nat) : BallAt I b ((I 1 b 0).toInt, (I 2 b 0).toInt, (I 3 b 0).toInt, (I 4 b 0).toInt, (I 5 b 0).toInt) := ⟨(zI_self _).symm, (zI_self _).symm, (zI_self _).symm, (zI_self _).symm, (zI_self _).symm⟩
abbrev bgv : List Nat := [15, 12, 82, 83, 84, 85, 86, 87, 88]
set_option maxRecDepth 100000 in
theorem s_cbegin {Γ : AMG} {Q : QQ} {d : Nat} {I : II} {Lg : LJ} {R : RR} {gc : Nat → Nat}
    (h : ∀ I' : II, FrI (V0 bgv) I I' → I' 15 0 0 = zI 1000000 → I' 12 0 0 = zI 0 → CRAt I' 0 (0, 0, 0, 0, 0, 0) → I' 88 0 0 = zI 0 → Q none I' Lg R (GM gc)) :
    am_Sp Γ (d + 1) 0 0 mX2_begin [vR 2 0] I Lg R (GM gc) Q := by
  refine am_runN vX2_begin 9 _ rfl rfl rfl rfl ?_
  refine fun y1 ey1 I1 e1 y2 ey2 I2 e2 => ?_
  have f2 : FrI (V0 bgv) I I2 := by rw [e2, e1]; exact (FrI.rf.up rfl).up rfl
  refine am_goN vX2_begin 1 ?_
  refine s_cstore (k := 0) (t := 0) (any_ball I2 26) rfl (by omega) rfl (fun I3 K3 q1 q2 q3 q4 => ?_)
  have f3 : FrI (V0 bgv) I I3 := f2.tr (K3.fr.mono (fun v i q => V0_sub (by decide) q))
  refine am_goN vX2_begin 5 ?_
  refine And.intro ⟨by decide, by decide⟩ ?_
  refine fun y4 ey4 I4 e4 => ?_
  refine am_goN vX2_begin 5 ?_
  refine And.intro ⟨by decide, by decide⟩ ?_
  refine fun y5 ey5 I5 e5 => ?_
  refine am_goN vX2_begin 5 ?_
  refine And.intro ⟨by decide, by decide⟩ ?_
  refine fun y6 ey6 I6 e6 => ?_
  refine am_goN vX2_begin 5 ?_
  refine And.intro ⟨by decide, by decide⟩ ?_
  refine fun y7 ey7 I7 e7 => ?_
  refine am_goN vX2_begin 5 ?_
  refine And.intro ⟨by decide, by decide⟩ ?_
  refine fun y8 ey8 I8 e8 => ?_
  refine am_goN vX2_begin 20 ?_
  refine And.intro ⟨by decide, by decide⟩ ?_
  refine fun y9 ey9 I9 e9 => ?_
  have hz : (zI 0).toInt.toNat = 0 := rfl
  rw [hz] at e4 e5 e6 e7 e8 e9
  refine h I9 ?_ ?_ ?_ ⟨?_, ?_, ?_, ?_, ?_, ?_⟩ ?_
  · rw [e9, e8, e7, e6, e5, e4]
    exact (((((f3.up rfl).up rfl).up rfl).up rfl).up rfl).up rfl
  · rw [e9, up3_v _ (by decide), e8, up3_v _ (by decide), e7, up3_v _ (by decide), e6, up3_v _ (by decide), e5, up3_v _ (by decide), e4, up3_v _ (by decide), K3 _ _ _ (Or.inl rfl), e2, up3_v _ (by decide), e1, up3_s, ey1]
    rfl
  · rw [e9, up3_v _ (by decide), e8, up3_v _ (by decide), e7, up3_v _ (by decide), e6, up3_v _ (by decide), e5, up3_v _ (by decide), e4, up3_v _ (by decide), K3 _ _ _ (Or.inl rfl), e2, up3_s, ey2]
  · rw [e9, up3_v _ (by decide), e8, up3_v _ (by decide), e7, up3_v _ (by decide), e6, up3_v _ (by decide), e5, up3_v _ (by decide), e4, up3_v _ (by decide), q1]
  · rw [e9, up3_v _ (by decide), e8, up3_v _ (by decide), e7, up3_v _ (by decide), e6, up3_v _ (by decide), e5, up3_v _ (by decide), e4, up3_s, ey4]
  · rw [e9, up3_v _ (by decide), e8, up3_v _ (by decide), e7, up3_v _ (by decide), e6, up3_v _ (by decide), e5, up3_s, ey5]
  · rw [e9, up3_v _ (by decide), e8, up3_v _ (by decide), e7, up3_v _ (by decide), e6, up3_s, ey6]
  · rw [e9, up3_v _ (by decide), e8, up3_v _ (by decide), e7, up3_s, ey7]
  · rw [e9, up3_v _ (by decide), e8, up3_s, ey8]
  · rw [e9, up3_s, ey9]
/-- what is laid: the least, and the way -/
def layA (bd : List BD) (nW : Nat) (W : Nat → Int) (n : Nat) : Int × List Nat := layF bd nW W (min bd.length 8) n [] (0, 0, 0, 0, 0, 0) (1000000, [])
theorem layF_any {bds : List BD} {nW : Nat} {W : Nat → Int} {c m : Nat} {pre : List Nat} {w : CRW} {e : Int} {q q2 : List Nat} (hc : 0 < c) (h : ∀ s ∈ seqs c m, errS bds nW W s w < e) : layF bds nW W c m pre w (e, q) = layF bds nW W c m pre w (e, q2) := by
  obtain ⟨r, hr⟩ := seqs_hd hc m
  unfold layF
  have h1 := h (List.replicate m 0) (by rw [hr]; exact List.mem_cons_self)
  rw [hr, List.foldl_cons, List.foldl_cons]
  congr 1
  unfold updL
  rw [if_pos h1, if_pos h1]
theorem errS_le {bds : List BD} {nW : Nat} {W : Nat → Int} (hn : nW ≤ 10) (hbs : ∀ (j : Nat) (b : BD), bds[j]? = some b → BDok b) (hW : ∀ k, 0 ≤ W k ∧ W k ≤ 65535) : ∀ (s : List Nat) (w : CRW), CRok w → w.2.2.2.2.1 + s.length ≤ 100 → w.2.2.2.2.2 + 65535 * s.length ≤ 10000000 → errS bds nW W s w ≤ w.2.2.2.2.2 + 65535 * s.length + 1000
  | [], w, hw, _, _ => by
    show errV nW w.2.2.2.2.1 w.2.2.2.2.2 ≤ _
    have := hw.2.2.2.1
    unfold errV
    simp only [List.length_nil]
    omega
  | c :: cs, w, hw, h1, h2 => by
    rw [List.length_cons] at h1 h2 ⊢
    have hk := hw.2.2.2.1
    show (match (bds[c]?).bind (fun b => lay1 b nW W w) with
      | none => errV nW w.2.2.2.2.1 w.2.2.2.2.2
      | some w' => errS bds nW W cs w') ≤ _
    cases hb : bds[c]? with
    | none =>
      show errV nW w.2.2.2.2.1 w.2.2.2.2.2 ≤ _
      unfold errV
      omega
    | some x =>
      show (match lay1 x nW W w with
        | none => errV nW w.2.2.2.2.1 w.2.2.2.2.2
        | some w' => errS bds nW W cs w') ≤ _
      cases hl : lay1 x nW W w with
      | none =>
        show errV nW w.2.2.2.2.1 w.2.2.2.2.2 ≤ _
        unfold errV
        omega
      | some w' =>
        show errS bds nW W cs w' ≤ _
        obtain ⟨q1, q2, q3, q4, q5⟩ := lay1_ok (hbs c x hb) hW hw hl
        have hok' : CRok w' := ⟨q1, q2, q3, ⟨by have := hw.2.2.2.1; omega, by omega⟩, by have := hw.2.2.2.2; omega, by omega⟩
        have := errS_le (nW := nW) hn hbs hW cs w' hok' (by omega) (by omega)
        omega
theorem w0_ok : CRok (0, 0, 0, 0, 0, 0) := by
  refine ⟨⟨?_, ?_⟩, ⟨?_, ?_⟩, ⟨?_, ?_⟩, ⟨?_, ?_⟩, ?_, ?_⟩ <;> decide
theorem errS_lt {bds : List BD} {nW : Nat} {W : Nat → Int} {c n : Nat} (hn : nW ≤ 10) (h4 : n ≤ 4) (hbs : ∀ (j : Nat) (b : BD), bds[j]? = some b → BDok b) (hW : ∀ k, 0 ≤ W k ∧ W k ≤ 65535) : ∀ s ∈ seqs c n, errS bds nW W s (0, 0, 0, 0, 0, 0) < 1000000 := fun s hs => by
  have hl := seqs_len n s hs
  have := errS_le (nW := nW) hn hbs hW s (0, 0, 0, 0, 0, 0) w0_ok (by show (0 : Int) + _ ≤ 100; omega) (by show (0 : Int) + 65535 * _ ≤ _; omega)
  have e : ((0, 0, 0, 0, 0, 0) : CRW).2.2.2.2.2 = 0 := rfl
  omega
abbrev lyv : List Nat := 13 :: 14 :: 11 :: 89 :: bgv
def VLY : Nat → Nat → Bool := fun v i => V0 lyv v i || V1 bvars 26 v i
theorem VLY_out {vs : List Nat} (h : vs.all (fun v => !lyv.elem v && !bvars.elem v) = true) : ∀ v ∈ vs, ∀ i, VLY v i = false := by
  intro v hv i
  have h1 := List.all_eq_true.mp h v hv
  rw [Bool.and_eq_true, Bool.not_eq_true', Bool.not_eq_true'] at h1
  unfold VLY V0 V1
  rw [h1.1, h1.2]
  rfl
theorem VLY_l {l : List Nat} (hl : l.all (fun v => lyv.elem v) = true) : ∀ v i, VLY v i = false → V0 l v i = false := fun v i q => V0_sub hl (Bool.or_eq_false_iff.mp q).1
set_option maxRecDepth 100000 in
theorem s_layLikest {Γ : AMG} {Q : QQ} {d n : Nat} {x2 x3 : Int32} {I : II} {Lg : LJ} {R : RR} {gc : Nat → Nat} {bd : List BD} {nW : Nat} {W : Nat → Int} (hbd : BDsok bd) (hb0 : 0 < bd.length) (hn1 : 1 ≤ n) (hn4 : n ≤ 4) (hst : StockAt I R bd) (hT : TKAt I nW W) {q0 : List Nat} (hq0 : LaidAt I q0) (hx2 : x2 = zI bd.length) (hx3 : x3 = zI n)
    (h : ∀ I' : II, FrI VLY I I' → I' 11 0 0 = zI n → LaidAt I' (layA bd nW W n).2 → Q (some (vI (zI (layA bd nW W n).1))) I' Lg R (GM gc)) :
    am_Sp Γ (d + n + 5) 0 0 mX2_layLikest [vR 2 0, vR 60 0, vI x2, vI x3, vR 10 0] I Lg R (GM gc) Q := by
  have hbl := hbd.1
  refine am_runN vX2_layLikest 2 _ rfl rfl rfl rfl ?_
  refine s_cbegin (fun I1 f1 l1 _ c1 _ => ?_)
  have F1 : FrI VLY I I1 := f1.mono (VLY_l (by decide))
  refine am_goN vX2_layLikest 5 ?_
  refine fun y2 ey2 I2 e2 => ?_
  refine am_goN vX2_layLikest 8 ?_
  refine fun y3 ey3 I3 e3 => ?_
  have f13 : FrI (V0 [13, 14]) I1 I3 := by rw [e3, e2]; exact (FrI.rf.up rfl).up rfl
  have F3 : FrI VLY I I3 := F1.tr (f13.mono (VLY_l (by decide)))
  have m3 : I3 13 0 0 = zI n := by
    rw [e3, up3_v _ (by decide), e2, up3_s, ey2, hx3, am_min_z (by omega) (by omega) (by omega) (by omega)]
    congr 1
    omega
  have ch3 : I3 14 0 0 = zI (min bd.length 8 : Nat) := by
    rw [e3, up3_s, ey3, hx2, am_min_z (by omega) (by omega) (by omega) (by omega)]
    show am_min _ (zI 16) = _
    rw [am_min_z (by omega) (by omega) (by omega) (by omega)]
    congr 1
    omega
  have cr3 : CRAt I3 0 (0, 0, 0, 0, 0, 0) := by
    obtain ⟨w1, w2, w3, w4, w5, w6⟩ := c1
    refine ⟨?_, ?_, ?_, ?_, ?_, ?_⟩ <;> rw [f13 _ _ rfl] <;> assumption
  have le3 : I3 15 0 0 = zI 1000000 := by rw [f13 _ _ rfl]; exact l1
  have hla : LaidAt I3 q0 := fun j hj => by rw [f13 _ _ rfl, f1 _ _ rfl]; exact hq0 j hj
  have hT3 : TKAt I3 nW W := hT.fr F3 (VLY_out (vs := [40]) (by decide) _ (by decide) _) (VLY_out (vs := [124]) (by decide) _ (by decide) _)
  have hst3 : StockAt I3 R bd := hst.fr F3 (VLY_out (vs := [46]) (by decide) _ (by decide) _) (VLY_out (by decide))
  have hlt := errS_lt (bds := bd) (W := W) (c := min bd.length 8) (n := n) hT.2.1 hn4 (fun j b hj => hbd.2 j b hj) hT.2.2.2
  obtain ⟨m, rfl⟩ : ∃ m, n = m + 1 := ⟨n - 1, by omega⟩
  have hge : ∀ s ∈ seqs (min bd.length 8) (m + 1), 0 ≤ errS bd nW W s (0, 0, 0, 0, 0, 0) := fun s hs => by
    have hsl := seqs_len _ _ hs
    have := errS_ge (nW := nW) (bds := bd) (fun j b hj => hbd.2 j b hj) hT.2.2.2 s (0, 0, 0, 0, 0, 0) w0_ok (by show (0 : Int) + _ ≤ 100; omega) (by show (0 : Int) + 65535 * _ ≤ _; omega)
    have e : ((0, 0, 0, 0, 0, 0) : CRW).2.2.2.2.2 = 0 := rfl
    omega
  have hrg := layF_rng (bds := bd) (nW := nW) (W := W) (c := min bd.length 8) (m := m + 1) (pre := []) (w := (0, 0, 0, 0, 0, 0)) (st := (1000000, [])) hge (by decide)
  have he : layF bd nW W (min bd.length 8) (m + 1) [] (0, 0, 0, 0, 0, 0) (1000000, q0) = layA bd nW W (m + 1) := layF_any (by omega) hlt
  refine am_goN vX2_layLikest 5 ?_
  refine s_layOn hbd hn4 (by omega) (by omega) (by omega) m 0 [] (0, 0, 0, 0, 0, 0) (1000000, q0) I3 _ _ (by omega) rfl rfl hst3 hT3 m3 ch3 cr3 w0_ok (Int.le_refl _) (Int.le_refl _) (fun j hj => absurd hj (by omega)) le3 ⟨show (0 : Int) ≤ 1000000 by omega, show (1000000 : Int) ≤ 100000000 by omega⟩ hla (fun I4 f4 l4 la4 => ?_)
  rw [he] at l4 la4
  have F4 : FrI VLY I I4 := F3.tr (f4.fr.mono (fun v i q => by
    obtain ⟨q1, q2⟩ := Bool.or_eq_false_iff.mp q
    exact Bool.or_eq_false_iff.mpr ⟨V0_sub (by decide) q1, q2⟩))
  have m4 : I4 13 0 0 = zI ((m + 1 : Nat) : Int) := by rw [f4.fr _ _ (VLO_out (vs := [13]) (by decide) _ (by decide) _)]; exact m3
  refine am_goN vX2_layLikest 4 ?_
  refine fun y5 ey5 I5 e5 => ?_
  refine am_goN vX2_layLikest 10 ?_
  have f5 : FrI (V0 [11]) I4 I5 := by rw [e5]; exact FrI.rf.up rfl
  have hh := h I5 (F4.tr (f5.mono (VLY_l (by decide)))) (by rw [e5, up3_s, ey5, m4]) (fun j hj => by rw [f5 _ _ rfl]; exact la4 j hj)
  rw [← l4, ← f5 _ _ rfl] at hh
  exact hh
theorem s_layLikest9 {Γ : AMG} {Q : QQ} {d n : Nat} {x2 x3 : Int32} {I : II} {Lg : LJ} {R : RR} {gc : Nat → Nat} {bd : List BD} {nW : Nat} {W : Nat → Int} (hbd : BDsok bd) (hb0 : 0 < bd.length) (hn1 : 1 ≤ n) (hn4 : n ≤ 4) (hst : StockAt I R bd) (hT : TKAt I nW W) {q0 : List Nat} (hq0 : LaidAt I q0) (hx2 : x2 = zI bd.length) (hx3 : x3 = zI n)
    (h : ∀ I' : II, FrI VLY I I' → I' 11 0 0 = zI n → LaidAt I' (layA bd nW W n).2 → Q (some (vI (zI (layA bd nW W n).1))) I' Lg R (GM gc)) :
    am_Sp Γ (d + 9) 0 0 mX2_layLikest [vR 2 0, vR 60 0, vI x2, vI x3, vR 10 0] I Lg R (GM gc) Q := by
  rw [show d + 9 = (d + 4 - n) + n + 5 by omega]
  exact s_layLikest hbd hb0 hn1 hn4 hst hT hq0 hx2 hx3 h
/-- the API of the class -/
abbrev lyv2 : List Nat := [39, 40, 124]
def VLZ : Nat → Nat → Bool := fun v i => VLY v i || V0 lyv2 v i
set_option maxRecDepth 100000 in
theorem s_lay {Γ : AMG} {Q : QQ} {d : Nat} {x1 : Int32} {I : II} {Lg : LJ} {R : RR} {gc : Nat → Nat} {bd : List BD} {sz : Nat} {bs : Nat → Int} {q0 : List Nat} (hb : BSsok sz bs) (ht : TapeAt I sz bs) (hbd : BDsok bd) (hst : StockAt I R bd) (hq0 : LaidAt I q0)
    (hn : ¬ (1 ≤ x1.toInt ∧ x1.toInt ≤ 4 ∧ 0 < bd.length ∧ tkOk sz bs) → ∀ I' : II, FrI (V0 lyv2) I I' → I' 39 0 0 = zI 0 → Q (some (vI (zI (-1)))) I' Lg R (GM gc))
    (hy : ∀ n : Nat, x1 = zI n → 1 ≤ n → n ≤ 4 → 0 < bd.length → tkOk sz bs → ∀ I' : II, FrI VLZ I I' → I' 39 0 0 = zI 0 → I' 11 0 0 = zI n → LaidAt I' (layA bd (sz / 2) (tkv bs) n).2 → Q (some (vI (zI (layA bd (sz / 2) (tkv bs) n).1))) I' Lg R (GM gc)) :
    am_Sp Γ (d + 10) 0 0 mX11_lay [vR 11 0, vI x1] I Lg R (GM gc) Q := by
  have hbl := hbd.1
  have hbt : (I 46 0 0).toInt = bd.length := by rw [hst.1, zI_toInt (by omega) (by omega)]
  have k49 : ∀ (x2 : Int32) (I1 : II), (∀ I' : II, I' = up3 I1 39 0 0 (zI 0) → Q (some (vI x2)) I' Lg R (GM gc)) → am_J Γ mX11_lay Q (d + 10) 0 0 49 [some (vR 11 0), some (vI x1), some (vI x2)] [] I1 Lg R (GM gc) := by
    intro x2 I1 hk
    refine am_goN vX11_lay 3 ?_
    refine s_clear ?_
    refine am_goN vX11_lay 3 ?_
    exact hk _ rfl
  have hno : ¬ (1 ≤ x1.toInt ∧ x1.toInt ≤ 4 ∧ 0 < bd.length ∧ tkOk sz bs) → ∀ I1 : II, FrI (V0 lyv2) I I1 → ∀ x2 : Int32, x2 = zI (-1) → am_J Γ mX11_lay Q (d + 10) 0 0 49 [some (vR 11 0), some (vI x1), some (vI x2)] [] I1 Lg R (GM gc) := fun hnot I1 f1 x2 hx2 => k49 x2 I1 (fun I' e' => by
    rw [hx2]
    exact hn hnot I' (by rw [e']; exact f1.up rfl) (by rw [e', up3_s]))
  refine am_runN vX11_lay 2 _ rfl rfl rfl rfl ?_
  refine fun x2 ex2 => ?_
  refine am_goN vX11_lay 5 ?_
  refine s_within (fun w1 w2 => ?_) (fun w => ?_)
  · rw [zI_toInt (by omega) (by omega)] at w1 w2
    refine And.intro (fun c => ?_) (fun _ => ?_)
    · rw [zI_toInt (by omega) (by omega)] at c
      omega
    refine am_goN vX11_lay 3 ?_
    refine And.intro (fun c => ?_) (fun c => ?_)
    · rw [hbt] at c
      exact hno (by omega) I FrI.rf x2 ex2
    rw [hbt] at c
    refine am_goN vX11_lay 4 ?_
    refine s_readTicks hb ht (fun hok I1 f1 t1 t2 => ?_) (fun hok I1 f1 => ?_)
    · refine And.intro (fun c2 => ?_) (fun _ => ?_)
      · rw [zI_toInt (by omega) (by omega)] at c2
        omega
      have F1 : FrI (V0 lyv2) I I1 := f1.mono (fun v i q => V0_sub (by decide) q)
      have hst1 : StockAt I1 R bd := hst.fr F1 rfl (fun v hv i => V0_outI (by decide) v hv i)
      have hT1 : TKAt I1 (sz / 2) (tkv bs) := ⟨t1, by have := hok.2.1; omega, t2, fun k => tkv_rng hb k⟩
      have hx1 : x1 = zI (x1.toInt.toNat : Nat) := by rw [show ((x1.toInt.toNat : Nat) : Int) = x1.toInt by omega, zI_self]
      generalize hn9 : x1.toInt.toNat = n at hx1
      refine am_goN vX11_lay 11 ?_
      refine s_layLikest9 (n := n) hbd (by omega) (by omega) (by omega) hst1 hT1 (q0 := q0) (fun j hj => by rw [F1 _ _ rfl]; exact hq0 j hj) hst1.1 hx1 (fun I2 f2 l2 la2 => ?_)
      refine fun x2 ex2 => ?_
      refine k49 x2 I2 (fun I' e' => ?_)
      rw [ex2]
      refine hy n hx1 (by omega) (by omega) (by omega) hok I' ?_ ?_ ?_ ?_
      · rw [e']
        refine FrI.up ?_ (by decide)
        exact (F1.mono (fun v i q => (Bool.or_eq_false_iff.mp q).2)).tr (f2.mono (fun v i q => (Bool.or_eq_false_iff.mp q).1))
      · rw [e', up3_s]
      · rw [e', up3_v _ (by decide)]
        exact l2
      · intro j hj
        rw [e', up3_v _ (by decide)]
        exact la2 j hj
    · refine And.intro (fun _ => ?_) (fun c2 => ?_)
      · exact hno (fun z => hok z.2.2.2) I1 (f1.mono (fun v i q => V0_sub (by decide) q)) x2 ex2
      · rw [zI_toInt (by omega) (by omega)] at c2
        omega
  · rw [zI_toInt (by omega) (by omega), zI_toInt (by omega) (by omega)] at w
    refine And.intro (fun _ => ?_) (fun c => ?_)
    · exact hno (by omega) I FrI.rf x2 ex2
    · rw [zI_toInt (by omega) (by omega)] at c
      omega
