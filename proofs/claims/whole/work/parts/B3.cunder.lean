/-! Whether the class understands a text. -/
set_option maxRecDepth 100000 in
theorem under_end {Γ : AMG} {Q : QQ} {d : Nat} {I : II} {Lg : LJ} {R : RR} {gc : Nat → Nat} {sz : Nat} {bs : Nat → Int} {l : List MC} (hb : BSsok sz bs)
    (hF : ∀ e : FLT, scoreA sz bs l = .inr e → ∀ (I' : II) (R' : RR), FrC R R' → FrI VRD I I' → CFl I' e → Q (some (vI (zI 0))) I' Lg R' (GM gc))
    (hS : ∀ L : LST, scoreA sz bs l = .inl L → LSv l 4000 L → L.length ≤ 24 → ∀ (I' : II) (R' : RR), FrC R R' → FrI VRD I I' → I' 37 0 0 = zI 0 → PlanAt I' 0 (L, false) → Q (some (vI (zI 1))) I' Lg R' (GM gc))
    {P : PP} {x3 : Int32} {I1 : II} {R1 : RR} (hpr : parseA sz bs l 641 PP0 = .inl P) (hok : PPok l P) (hc : P.2.2.1 = none) (hfr : P.2.2.2.2.2 = []) (hR : FrC R R1) (hf : FrI VRD I I1) (hx : CTx I1 sz bs l) (hfk : I1 37 0 0 = zI 0) (hP : CPs I1 R1 sz bs P) :
    am_J Γ mX9_understands Q (d + 8) 0 0 154 [some (vR 9 0), some (vR 10 0), some (vR 5 0), some (vI x3)] [] I1 Lg R1 (GM gc) := by
  have hsz := hb.1
  have hst : (I1 39 0 0).toInt = sz := by rw [hx.1.1, zI_toInt (by omega) (by omega)]
  have hp0 : PlanAt I1 0 (capL P.2.2.2.2.1) := by
    have := hP.2.2.2.1
    rw [curI_0.mpr hc, hfr] at this
    exact this
  have k0 : (I1 37 0 0).toInt = 0 := by rw [hfk, zI_toInt (by omega) (by omega)]
  -- a fault
  have k218F : ∀ (e : FLT) (I2 : II), scoreA sz bs l = .inr e → FrI VRD I I2 → CFl I2 e → (1 ≤ e.1 ∧ e.1 ≤ 4) → am_J Γ mX9_understands Q (d + 8) 0 0 218 [some (vR 9 0), some (vR 10 0), some (vR 5 0), some (vI x3)] [] I2 Lg R1 (GM gc) := by
    intro e I2 hsc f2 m2 h4
    refine am_goN vX9_understands 3 ?_
    refine And.intro (fun _ => ?_) (fun c => absurd c (m2.ne h4))
    refine am_goN vX9_understands 3 ?_
    exact ⟨Or.inl rfl, hF e hsc I2 R1 hR f2 m2⟩
  refine am_goN vX9_understands 3 ?_
  refine And.intro (fun c => absurd k0 c) (fun _ => ?_)
  refine am_goN vX9_understands 4 ?_
  have k179 : ¬ 600 < sz → am_J Γ mX9_understands Q (d + 8) 0 0 179 [some (vR 9 0), some (vR 10 0), some (vR 5 0), some (vI x3)] [] I1 Lg R1 (GM gc) := by
    intro h6
    have k209 : badL P.2.2.2.2.1 → am_J Γ mX9_understands Q (d + 8) 0 0 209 [some (vR 9 0), some (vR 10 0), some (vR 5 0), some (vI x3)] [] I1 Lg R1 (GM gc) := by
      intro hbad
      have hsc := scoreA_4 hpr h6 hbad
      refine am_goN vX9_understands 5 ?_
      refine s_fail hfk (fun I2 f2 m2 n2 => ?_)
      exact k218F (4, sz) I2 hsc (hf.tr (V0_rd f2 (by decide))) ⟨m2, n2.trans hx.1.1⟩ (by show (1 : Int) ≤ 4 ∧ (4 : Int) ≤ 4; omega)
    refine am_goN vX9_understands 3 ?_
    refine And.intro (fun c => absurd k0 c) (fun _ => ?_)
    refine am_goN vX9_understands 4 ?_
    have hov := hp0.2.2.1
    by_cases h24 : 24 < P.2.2.2.2.1.length
    · rw [show (capL P.2.2.2.2.1).2 = true from decide_eq_true h24] at hov
      refine And.intro (fun _ => k209 (Or.inl h24)) (fun c => ?_)
      rw [hov] at c
      exact absurd c (by show ¬ (zI 1).toInt = 0; rw [zI_toInt (by omega) (by omega)]; omega)
    · rw [show (capL P.2.2.2.2.1).2 = false from decide_eq_false h24] at hov
      refine And.intro (fun c => ?_) (fun _ => ?_)
      · rw [hov] at c
        exact absurd (show (zI 0).toInt = 0 by rw [zI_toInt (by omega) (by omega)]) c
      have hcap : capL P.2.2.2.2.1 = (P.2.2.2.2.1, false) := by
        unfold capL
        rw [List.take_of_length_le (by omega), decide_eq_false h24]
      rw [hcap] at hp0
      have hv := hok.2.2.2.2.2.2.1
      have h8 := hok.1
      have hrng : ∀ e ∈ P.2.2.2.2.1, -1000000000 ≤ e.1 ∧ e.1 ≤ 1000000000 := fun e he => by
        obtain ⟨a1, a2, -⟩ := hv e he
        omega
      have hlr := ltick_rng hrng
      have hlt1 : (zI (ltick ((P.2.2.2.2.1, false) : PS).1)).toInt = ltick P.2.2.2.2.1 := zI_toInt (a := ltick P.2.2.2.2.1) (by omega) (by omega)
      have h40 : (zI 4000).toInt = 4000 := zI_toInt (by omega) (by omega)
      refine am_goN vX9_understands 5 ?_
      refine s_lastTick hp0 hrng ?_
      refine And.intro (fun c => ?_) (fun c => ?_)
      · rw [hlt1, h40] at c
        have hnb : ¬ badL P.2.2.2.2.1 := by
          rintro (q | q)
          · exact h24 q
          · have := ltick_gt.mpr q
            have c : ltick P.2.2.2.2.1 ≤ 4000 := c
            omega
        have hsc := scoreA_y hpr h6 hnb
        refine am_goN vX9_understands 3 ?_
        refine And.intro (fun c => absurd k0 c) (fun _ => ?_)
        refine am_goN vX9_understands 5 ?_
        refine ⟨Or.inr rfl, hS _ hsc (fun e he => ?_) (by omega) I1 R1 hR hf hfk hp0⟩
        obtain ⟨a1, a2, a3⟩ := hv e he
        exact ⟨a1, Decidable.byContradiction (fun q => hnb (Or.inr ⟨e, he, by omega⟩)), a3⟩
      · rw [hlt1, h40] at c
        exact k209 (Or.inr (ltick_gt.mp c))
  refine And.intro (fun c => ?_) (fun c => ?_)
  · rw [hst, zI_toInt (by omega) (by omega)] at c
    exact k179 (by omega)
  · rw [hst, zI_toInt (by omega) (by omega)] at c
    have hsc := scoreA_6 hpr (by omega)
    refine am_goN vX9_understands 4 ?_
    refine s_fail hfk (fun I2 f2 m2 n2 => ?_)
    have m3 : CFl I2 (1, 600) := ⟨m2, n2⟩
    have h4 : (1 : Int) ≤ (1, 600).1 ∧ ((1, 600) : FLT).1 ≤ 4 := by show (1 : Int) ≤ 1 ∧ (1 : Int) ≤ 4; omega
    refine am_goN vX9_understands 3 ?_
    refine And.intro (fun _ => ?_) (fun c => absurd c (m3.ne h4))
    exact k218F (1, 600) I2 hsc (hf.tr (V0_rd f2 (by decide))) m3 h4
set_option maxRecDepth 100000 in
theorem under_loop {Γ : AMG} {Q : QQ} {d : Nat} {I : II} {Lg : LJ} {R : RR} {gc : Nat → Nat} {sz : Nat} {bs : Nat → Int} {l : List MC} (hW : SWok Γ) (hK : KWok Γ) (hb : BSsok sz bs) (hl : MCsok l)
    (hF : ∀ e : FLT, scoreA sz bs l = .inr e → ∀ (I' : II) (R' : RR), FrC R R' → FrI VRD I I' → CFl I' e → Q (some (vI (zI 0))) I' Lg R' (GM gc))
    (hS : ∀ L : LST, scoreA sz bs l = .inl L → LSv l 4000 L → L.length ≤ 24 → ∀ (I' : II) (R' : RR), FrC R R' → FrI VRD I I' → I' 37 0 0 = zI 0 → PlanAt I' 0 (L, false) → Q (some (vI (zI 1))) I' Lg R' (GM gc)) :
    ∀ (f i : Nat) (P : PP) (x3 : Int32) (I1 : II) (R1 : RR), f + i = 641 → x3 = zI i → i ≤ P.1 → P.1 ≤ sz → parseA sz bs l f P = parseA sz bs l 641 PP0 → PPok l P → FrC R R1 → FrI VRD I I1 → CTx I1 sz bs l → I1 37 0 0 = zI 0 → I1 41 0 0 = zI P.1 → CPs I1 R1 sz bs P →
      am_J Γ mX9_understands Q (d + 8) 0 0 7 [some (vR 9 0), some (vR 10 0), some (vR 5 0), some (vI x3)] [] I1 Lg R1 (GM gc) := by
  have hsz := hb.1
  have t14 : (1 : Int) ≤ 1 ∧ (1 : Int) ≤ 4 := by omega
  have t34 : (1 : Int) ≤ 3 ∧ (3 : Int) ≤ 4 := by omega
  intro f
  induction f with
  | zero =>
    intro i P x3 I1 R1 h1 hx3 h2 h3
    omega
  | succ f ih =>
    intro i P x3 I1 R1 hfi hx3 hip hp hpr hok hR hf hx hfk ha hP
    have ht : TOK sz bs (tokA sz bs P.1) := ⟨P.1, hp, rfl⟩
    obtain ⟨-, -, -, -, -, -, hprog, hst0, -⟩ := tok_ok hb hp
    have htk := ht.ok hb
    have hi3 : x3.toInt = i := by rw [hx3, zI_toInt (by omega) (by omega)]
    unfold parseA at hpr
    refine am_goN vX9_understands 3 ?_
    refine And.intro (fun c => ?_) (fun _ => ?_)
    · rw [hi3, zI_toInt (by omega) (by omega)] at c
      omega
    refine am_goN vX9_understands 3 ?_
    refine And.intro (fun c => ?_) (fun _ => ?_)
    · rw [hfk] at c
      exact absurd (zI_toInt (a := 0) (by omega) (by omega)) c
    refine am_goN vX9_understands 3 ?_
    refine s_nextToken hb hx.1 ha (by omega) (fun I2 f2 c2 => ?_)
    generalize tokA sz bs P.1 = t at *
    have f2' : FrI VRD I I2 := hf.tr (V0_rd f2 (by decide))
    have hfk2 : I2 37 0 0 = zI 0 := by rw [f2 _ _ rfl]; exact hfk
    have x2 : CTx I2 sz bs l := hx.fr f2 (V0_out (by decide))
    have P2 : CPs I2 R1 sz bs P := hP.fr f2 (by decide) (by decide)
    have hen : t.en ≤ sz := htk.2.1
    -- a fault that is kept
    have k148F : ∀ (e : FLT) (I3 : II) (R3 : RR), scoreA sz bs l = .inr e → FrC R R3 → FrI VRD I I3 → CFl I3 e → (1 ≤ e.1 ∧ e.1 ≤ 4) → am_J Γ mX9_understands Q (d + 8) 0 0 148 [some (vR 9 0), some (vR 10 0), some (vR 5 0), some (vI x3)] [] I3 Lg R3 (GM gc) := by
      intro e I3 R3 hsc hR3 f3 m3 h4
      have k154 : ∀ y3 : Int32, am_J Γ mX9_understands Q (d + 8) 0 0 154 [some (vR 9 0), some (vR 10 0), some (vR 5 0), some (vI y3)] [] I3 Lg R3 (GM gc) := by
        intro y3
        refine am_goN vX9_understands 3 ?_
        refine And.intro (fun _ => ?_) (fun c => absurd c (m3.ne h4))
        refine am_goN vX9_understands 3 ?_
        refine And.intro (fun _ => ?_) (fun c => absurd c (m3.ne h4))
        refine am_goN vX9_understands 3 ?_
        refine And.intro (fun _ => ?_) (fun c => absurd c (m3.ne h4))
        refine am_goN vX9_understands 3 ?_
        exact ⟨Or.inl rfl, hF e hsc I3 R3 hR3 f3 m3⟩
      refine am_goN vX9_understands 2 ?_
      refine fun y3 ey3 => ?_
      refine am_goN vX9_understands 3 ?_
      refine And.intro (fun _ => k154 y3) (fun _ => ?_)
      refine am_goN vX9_understands 3 ?_
      exact And.intro (fun _ => k154 y3) (fun c => absurd c (m3.ne h4))
    have k148p : ∀ (e : FLT) (I3 : II) (R3 : RR), pieceA sz bs l t P = .inr e → t.1 = 1 → FrC R R3 → FrI VRD I2 I3 → CFl I3 e → (1 ≤ e.1 ∧ e.1 ≤ 4) → am_J Γ mX9_understands Q (d + 8) 0 0 148 [some (vR 9 0), some (vR 10 0), some (vR 5 0), some (vI x3)] [] I3 Lg R3 (GM gc) := by
      intro e I3 R3 hpe ht1 hR3 f3 m3 h4
      rw [if_neg (fun z => by omega), hpe] at hpr
      exact k148F e I3 R3 (scoreA_f hpr.symm) hR3 (f2'.tr f3) m3 h4
    -- a piece that was read
    have k148 : ∀ (P' : PP) (I3 : II) (R3 : RR), pieceA sz bs l t P = .inl P' → FrC R R3 → FrI VRD I2 I3 → I3 37 0 0 = zI 0 → I3 41 0 0 = zI P'.1 → CPs I3 R3 sz bs P' → am_J Γ mX9_understands Q (d + 8) 0 0 148 [some (vR 9 0), some (vR 10 0), some (vR 5 0), some (vI x3)] [] I3 Lg R3 (GM gc) := by
      intro P' I3 R3 hpe hR3 f3 hf3 a3 p3
      obtain ⟨g1, g2, g3, g4⟩ := pieceA_ok hb hl ht hok hpe
      have hpg : P.1 < t.en := hprog (by omega) (by omega)
      rw [if_neg (fun z => by omega), hpe] at hpr
      refine am_goN vX9_understands 2 ?_
      refine fun y3 ey3 => ?_
      exact ih (i + 1) P' y3 I3 R3 (by omega) (by rw [ey3, hx3, zI_add]; congr 1) (by omega) g3 hpr g1 hR3 (f2'.tr f3) (x2.fr f3 (fun v hv => VRD_out (by decide) v hv 0)) hf3 a3 p3
    refine am_goN vX9_understands 1 ?_
    refine ar_ldcS (q := 0) (tx := "at") (fun U hU => (hK U hU).1) dl_X9_understands_26 ?_
    refine am_goN vX9_understands 2 ?_
    refine hW _ (d + 2) 0 I2 Lg R1 gc sz bs t (by decide) hb x2.1 ht c2 (fun hw => ?_) (fun nkAt => ?_)
    · have hw : isW bs t kAt := hw
      refine And.intro (fun c => ?_) (fun _ => ?_)
      · rw [zI_toInt (by omega) (by omega)] at c
        omega
      refine am_goN vX9_understands 5 ?_
      refine s_readUse hW hK hb hl x2 (c2.at9 (Or.inl hw.1)) hen hfk2 P2 hok (fun e he I3 f3 m3 h4 => ?_) (fun p' e he I3 f3 q3 a3 p3 => ?_)
      · exact k148p e I3 R1 (by rw [pieceA_at hw, he]) hw.1 hR f3 m3 h4
      · exact k148 _ I3 R1 (by rw [pieceA_at hw, he]) hR f3 q3 a3 p3
    have nkAt : ¬ isW bs t kAt := nkAt
    refine And.intro (fun _ => ?_) (fun c => ?_)
    rotate_left
    · rw [zI_toInt (by omega) (by omega)] at c
      omega
    refine am_goN vX9_understands 1 ?_
    refine ar_ldcS (q := 8) (tx := "times") (fun U hU => (hK U hU).2.1) dl_X9_understands_44 ?_
    refine am_goN vX9_understands 2 ?_
    refine hW _ (d + 2) 8 I2 Lg R1 gc sz bs t (by decide) hb x2.1 ht c2 (fun hw => ?_) (fun nkTimes => ?_)
    · have hw : isW bs t kTimes := hw
      refine And.intro (fun c => ?_) (fun _ => ?_)
      · rw [zI_toInt (by omega) (by omega)] at c
        omega
      refine am_goN vX9_understands 4 ?_
      refine s_readTimes hW hK hb x2.1 ht c2 hw.1 hfk2 P2 hok (fun h4 I3 f3 m3 => ?_) (fun hn4 e he I3 f3 m3 h4 => ?_) (fun hn4 p' m ev he I3 f3 q3 a3 p3 => ?_)
      · exact k148p _ I3 R1 (by rw [pieceA_times hw, if_pos h4]) hw.1 hR f3 m3 t34
      · exact k148p e I3 R1 (by rw [pieceA_times hw, if_neg hn4, he]) hw.1 hR f3 m3 h4
      · exact k148 _ I3 R1 (by rw [pieceA_times hw, if_neg hn4, he]) hR f3 q3 a3 p3
    have nkTimes : ¬ isW bs t kTimes := nkTimes
    refine And.intro (fun _ => ?_) (fun c => ?_)
    rotate_left
    · rw [zI_toInt (by omega) (by omega)] at c
      omega
    refine am_goN vX9_understands 1 ?_
    refine ar_ldcS (q := 6) (tx := "play") (fun U hU => (hK U hU).2.2.1) dl_X9_understands_61 ?_
    refine am_goN vX9_understands 2 ?_
    refine hW _ (d + 2) 6 I2 Lg R1 gc sz bs t (by decide) hb x2.1 ht c2 (fun hw => ?_) (fun nkPlay => ?_)
    · have hw : isW bs t kPlay := hw
      refine And.intro (fun c => ?_) (fun _ => ?_)
      · rw [zI_toInt (by omega) (by omega)] at c
        omega
      refine am_goN vX9_understands 4 ?_
      refine s_readPlay hW hK hb x2.1 ht c2 hw.1 hfk2 P2 hok (fun e he I3 f3 m3 h4 => ?_) (fun p' es lt he I3 f3 q3 a3 p3 => ?_)
      · exact k148p e I3 R1 (by rw [pieceA_play hw, he]) hw.1 hR f3 m3 h4
      · exact k148 _ I3 R1 (by rw [pieceA_play hw, he]) hR f3 q3 a3 p3
    have nkPlay : ¬ isW bs t kPlay := nkPlay
    refine And.intro (fun _ => ?_) (fun c => ?_)
    rotate_left
    · rw [zI_toInt (by omega) (by omega)] at c
      omega
    refine am_goN vX9_understands 1 ?_
    refine ar_ldcS (q := 7) (tx := "storm") (fun U hU => (hK U hU).2.2.2.1) dl_X9_understands_78 ?_
    refine am_goN vX9_understands 2 ?_
    refine hW _ (d + 2) 7 I2 Lg R1 gc sz bs t (by decide) hb x2.1 ht c2 (fun hw => ?_) (fun nkStorm => ?_)
    · have hw : isW bs t kStorm := hw
      refine And.intro (fun c => ?_) (fun _ => ?_)
      · rw [zI_toInt (by omega) (by omega)] at c
        omega
      refine am_goN vX9_understands 4 ?_
      refine s_readStorm hW hK hb x2.1 ht c2 hw.1 hfk2 P2 hok (fun e he I3 f3 m3 h4 => ?_) (fun P' he I3 R3 r3 f3 q3 a3 p3 => ?_)
      · exact k148p e I3 R1 (by rw [pieceA_storm hw, he]) hw.1 hR f3 m3 h4
      · exact k148 _ I3 R3 (by rw [pieceA_storm hw, he]) (hR.tr r3) f3 q3 a3 p3
    have nkStorm : ¬ isW bs t kStorm := nkStorm
    refine And.intro (fun _ => ?_) (fun c => ?_)
    rotate_left
    · rw [zI_toInt (by omega) (by omega)] at c
      omega
    refine am_goN vX9_understands 1 ?_
    refine ar_ldcS (q := 1) (tx := "end") (fun U hU => (hK U hU).2.2.2.2.1) dl_X9_understands_95 ?_
    refine am_goN vX9_understands 2 ?_
    refine hW _ (d + 2) 1 I2 Lg R1 gc sz bs t (by decide) hb x2.1 ht c2 (fun hw => ?_) (fun nkEnd => ?_)
    · have hw : isW bs t kEnd := hw
      refine And.intro (fun c => ?_) (fun _ => ?_)
      · rw [zI_toInt (by omega) (by omega)] at c
        omega
      refine am_goN vX9_understands 4 ?_
      refine s_close hb ht c2 hw.1 hfk2 P2 hok (fun e he I3 f3 m3 h4 => ?_) (fun P' he I3 R3 r3 f3 q3 a3 _ p3 => ?_)
      · exact k148p e I3 R1 (by rw [pieceA_end9 hw, he]) hw.1 hR f3 m3 h4
      · exact k148 _ I3 R3 (by rw [pieceA_end9 hw, he]) (hR.tr r3) f3 q3 a3 p3
    have nkEnd : ¬ isW bs t kEnd := nkEnd
    refine And.intro (fun _ => ?_) (fun c => ?_)
    rotate_left
    · rw [zI_toInt (by omega) (by omega)] at c
      omega
    -- no word of these
    have hno : pieceA sz bs l t P = .inr (1, t.st) := pieceA_no nkAt nkPlay nkTimes nkEnd nkStorm
    have k139 : ¬ (t.1 = 0 ∧ P.2.2.2.2.2 = [] ∧ P.2.2.1 = none) → am_J Γ mX9_understands Q (d + 8) 0 0 139 [some (vR 9 0), some (vR 10 0), some (vR 5 0), some (vI x3)] [] I2 Lg R1 (GM gc) := by
      intro hz
      rw [if_neg hz, hno] at hpr
      refine am_goN vX9_understands 5 ?_
      refine s_failT (t := t) (k := 1) hfk2 rfl c2.2.1 (fun I3 f3 m3 => ?_)
      exact k148F (1, t.2.1) I3 R1 (scoreA_f hpr.symm) hR (f2'.tr (V0_rd f3 (by decide))) m3 t14
    have hkt : (I2 42 0 0).toInt = t.1 := by rw [c2.1, zI_toInt (by omega) (by omega)]
    have h4l := hok.2.2.1
    have hot : (I2 36 0 0).toInt = P.2.2.2.2.2.length := by rw [P2.2.2.1, zI_toInt (by omega) (by omega)]
    refine am_goN vX9_understands 3 ?_
    refine And.intro (fun c => ?_) (fun c => ?_)
    · rw [hkt] at c
      exact k139 (fun z => c (by rw [z.1]; rfl))
    rw [hkt] at c
    refine am_goN vX9_understands 3 ?_
    refine And.intro (fun c3 => ?_) (fun c3 => ?_)
    · rw [hot] at c3
      exact k139 (fun z => c3 (by rw [z.2.1]; rfl))
    rw [hot] at c3
    have hfr : P.2.2.2.2.2 = [] := List.length_eq_zero_iff.mp (by omega)
    refine am_goN vX9_understands 2 ?_
    refine And.intro (fun c4 => ?_) (fun b hbb => ?_)
    · rw [P2.1] at c4; cases c4
    rw [P2.1] at hbb
    have hbb := Option.some.inj hbb
    subst hbb
    refine am_goN vX9_understands 3 ?_
    refine And.intro (fun c4 => ?_) (fun c4 => ?_)
    · exact k139 (fun z => c4 ⟨rfl, curI_0.mpr z.2.2⟩)
    have hc : P.2.2.1 = none := curI_0.mp c4.2
    rw [if_pos ⟨by omega, hfr, hc⟩] at hpr
    refine am_goN vX9_understands 1 ?_
    exact under_end hb hF hS hpr.symm hok hc hfr hR f2' x2 hfk2 P2
set_option maxRecDepth 100000 in
theorem s_understands {Γ : AMG} {Q : QQ} {d : Nat} {I : II} {Lg : LJ} {R : RR} {gc : Nat → Nat} {sz : Nat} {bs : Nat → Int} {l : List MC} (hW : SWok Γ) (hK : KWok Γ) (hb : BSsok sz bs) (hl : MCsok l) (hx : CTx I sz bs l)
    (hF : ∀ e : FLT, scoreA sz bs l = .inr e → ∀ (I' : II) (R' : RR), FrC R R' → FrI VRD I I' → CFl I' e → Q (some (vI (zI 0))) I' Lg R' (GM gc))
    (hS : ∀ L : LST, scoreA sz bs l = .inl L → LSv l 4000 L → L.length ≤ 24 → ∀ (I' : II) (R' : RR), FrC R R' → FrI VRD I I' → I' 37 0 0 = zI 0 → PlanAt I' 0 (L, false) → Q (some (vI (zI 1))) I' Lg R' (GM gc)) :
    am_Sp Γ (d + 8) 0 0 mX9_understands [vR 9 0, vR 10 0, vR 5 0] I Lg R (GM gc) Q := by
  refine am_runN vX9_understands 5 _ rfl rfl rfl rfl ?_
  refine s_begin (sz := sz) (bs := bs) (fun I1 R1 r1 f1 k1 a1 p1 => ?_)
  refine fun x3 ex3 => ?_
  exact under_loop hW hK hb hl hF hS 641 0 PP0 x3 I1 R1 rfl ex3 (Nat.le_refl 0) (Nat.zero_le _) rfl PP0_ok r1 f1 (hx.fr f1 (fun v hv => VRD_out (by decide) v hv 0)) k1 a1 p1
