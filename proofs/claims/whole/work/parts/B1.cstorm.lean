/-! The class opens a storm. -/
/-- what storm does -/
def stoA (sz : Nat) (bs : Nat → Int) (t : TK) (P : PP) : PP ⊕ FLT := match P.2.2.2.2.2, P.2.2.1 with
    | [], none => stormA sz bs t P
    | _, _ => .inr (1, t.st)
theorem stoA_1 {sz : Nat} {bs : Nat → Int} {t : TK} {P : PP} (h : P.2.2.1 ≠ none ∨ P.2.2.2.2.2 ≠ []) : stoA sz bs t P = .inr (1, t.st) := by
  unfold stoA
  cases h1 : P.2.2.2.2.2 with
  | cons f r => rfl
  | nil =>
    cases h2 : P.2.2.1 with
    | some w => rfl
    | none => exact absurd h (fun z => z.elim (fun q => q h2) (fun q => q h1))
theorem stoA_2 {sz : Nat} {bs : Nat → Int} {t : TK} {P : PP} (h1 : P.2.2.1 = none) (h2 : P.2.2.2.2.2 = []) : stoA sz bs t P = stormA sz bs t P := by
  unfold stoA
  rw [h1, h2]
theorem curI_0 {P : PP} : curI P = 0 ↔ P.2.2.1 = none := by
  unfold curI
  cases hc : P.2.2.1 with
  | none => exact ⟨fun _ => rfl, fun _ => rfl⟩
  | some w => exact ⟨fun q => by (have q : 1 + P.2.1.length = 0 := q; omega), fun q => by (cases q)⟩
set_option maxRecDepth 100000 in
theorem s_readStorm {Γ : AMG} {Q : QQ} {d : Nat} {I : II} {Lg : LJ} {R : RR} {gc : Nat → Nat} {sz : Nat} {bs : Nat → Int} {l : List MC} {t : TK} {P : PP} (hW : SWok Γ) (hK : KWok Γ) (hb : BSsok sz bs) (hx : TapeAt I sz bs) (ht : TOK sz bs t) (hm : CTk I t) (ht1 : t.1 = 1) (hf : I 37 0 0 = zI 0) (hP : CPs I R sz bs P) (hok : PPok l P)
    (hn : ∀ f : FLT, stoA sz bs t P = .inr f → ∀ (I' : II), FrI VRD I I' → CFl I' f → (1 ≤ f.1 ∧ f.1 ≤ 4) → Q none I' Lg R (GM gc))
    (hy : ∀ P' : PP, stoA sz bs t P = .inl P' → ∀ (I' : II) (R' : RR), FrC R R' → FrI VRD I I' → I' 37 0 0 = zI 0 → I' 41 0 0 = zI P'.1 → CPs I' R' sz bs P' → Q none I' Lg R' (GM gc)) :
    am_Sp Γ (d + 7) 0 0 mX9_readStorm [vR 9 0, vR 10 0] I Lg R (GM gc) Q := by
  have hsz := hb.1
  have h4 := hok.2.2.1
  have h8 := hok.1
  have t14 : (1 : Int) ≤ 1 ∧ (1 : Int) ≤ 4 := by omega
  have t34 : (1 : Int) ≤ 3 ∧ (3 : Int) ≤ 4 := by omega
  have hot : (I 36 0 0).toInt = P.2.2.2.2.2.length := by rw [hP.2.2.1, zI_toInt (by omega) (by omega)]
  have hct : (I 35 0 0).toInt = P.2.1.length := by rw [hP.2.1, zI_toInt (by omega) (by omega)]
  have hen : t.en ≤ sz := (ht.ok hb).2.1
  have k18 : (P.2.2.1 ≠ none ∨ P.2.2.2.2.2 ≠ []) → am_J Γ mX9_readStorm Q (d + 7) 0 0 18 [some (vR 9 0), some (vR 10 0), none] [] I Lg R (GM gc) := by
    intro h
    rw [stoA_1 h] at hn
    refine am_goN vX9_readStorm 10 ?_
    exact s_failT (t := t) (k := 1) hf rfl hm.2.1 (fun I5 f5 m5 => hn (1, t.2.1) rfl I5 (V0_rd f5 (by decide)) m5 t14)
  refine am_runN vX9_readStorm 2 _ rfl rfl rfl rfl ?_
  refine And.intro (fun c => ?_) (fun b hbb => ?_)
  · rw [hP.1] at c; cases c
  rw [hP.1] at hbb
  have hbb := Option.some.inj hbb
  subst hbb
  refine am_goN vX9_readStorm 3 ?_
  refine And.intro (fun c => ?_) (fun c => ?_)
  · exact k18 (Or.inl (fun q => c ⟨rfl, curI_0.mpr q⟩))
  have hc : P.2.2.1 = none := curI_0.mp c.2
  refine am_goN vX9_readStorm 3 ?_
  refine And.intro (fun c2 => ?_) (fun c2 => ?_)
  · rw [hot] at c2
    have hfr : P.2.2.2.2.2 = [] := List.length_eq_zero_iff.mp (by omega)
    rw [stoA_2 hc hfr] at hn hy
    unfold stormA at hn hy
    refine am_goN vX9_readStorm 5 ?_
    refine s_stormAt (fun j hj hxj => ?_) (fun hxj => ?_)
    · have hjn : j = P.2.1.length := by
        have h1 := congrArg Int32.toInt hxj
        rw [hct, zI_toInt (by omega) (by omega)] at h1
        omega
      subst hjn
      rw [if_neg (by omega)] at hn hy
      refine am_goN vX9_readStorm 4 ?_
      refine s_nextToken hb hx (hm.at9 (Or.inl ht1)) (by omega) (fun I1 f1 c1 => ?_)
      have hT1 : TOK sz bs (tokA sz bs t.en) := ⟨t.en, hen, rfl⟩
      have f1' : FrI VRD I I1 := V0_rd f1 (by decide)
      have hf1 : I1 37 0 0 = zI 0 := by rw [f1 _ _ rfl]; exact hf
      have tx1 : TapeAt I1 sz bs := hx.fr f1 rfl rfl
      have P1 : CPs I1 R sz bs P := hP.fr f1 (by decide) (by decide)
      have hg1 : ∀ h : (tokA sz bs t.en).1 = 1 ∨ (tokA sz bs t.en).1 = 2 ∨ (tokA sz bs t.en).1 = 3, t.en < (tokA sz bs t.en).en ∧ (tokA sz bs t.en).en ≤ sz := fun h => tok_gt hb hen h
      generalize tokA sz bs t.en = t1 at *
      have hok1 := hT1.ok hb
      refine am_goN vX9_readStorm 3 ?_
      refine s_isName hW hK hb tx1 hT1 c1 (fun hnm => ?_) (fun hnm => ?_)
      · rw [if_neg (fun z => z hnm)] at hn hy
        refine And.intro (fun _ => ?_) (fun c => ?_)
        · refine am_goN vX9_readStorm 5 ?_
          refine s_findStorm hb tx1 hT1 c1 h8 P1.2.1 P1.nms (fun j s hj hw hmin => ?_) (fun hno => ?_)
          · have hjl := (List.getElem?_eq_some_iff.mp hj).1
            have hw := ((isNm_w hnm _).mp hw)
            have hfs : findS (twd bs t1) P.2.1 = some s.2 := by
              refine findS_some _ j (by rw [hw]; exact hj) (fun i x hi hx q => ?_)
              exact hmin i x hi hx ((isNm_w hnm _).mpr q.symm)
            rw [hfs, if_pos (show (some s.2).isSome = true from rfl)] at hn
            refine And.intro (fun c => ?_) (fun _ => ?_)
            · rw [zI_toInt (by omega) (by omega), zI_toInt (by omega) (by omega)] at c
              omega
            refine am_goN vX9_readStorm 10 ?_
            refine s_failT (t := t1) (k := 3) hf1 rfl c1.2.1 (fun I5 f5 m5 => ?_)
            exact hn _ rfl I5 (f1'.tr (V0_rd f5 (by decide))) m5 t34
          · have hfs : findS (twd bs t1) P.2.1 = none := findS_none _ (fun i x hx q => hno i x hx ((isNm_w hnm _).mpr q.symm))
            rw [hfs, if_neg (show ¬ (none : Option LST).isSome = true from fun z => by (cases z))] at hy
            refine And.intro (fun _ => ?_) (fun c => ?_)
            · have hct1 : (I1 35 0 0).toInt = P.2.1.length := by rw [P1.2.1, zI_toInt (by omega) (by omega)]
              have hct1n : (I1 35 0 0).toInt.toNat = P.2.1.length := by omega
              have h28 : P.2.1.length < 8 := by omega
              obtain ⟨q1, q2, q3, q4, q5, q6, q7, q8⟩ := id P1
              rw [curI_0.mpr hc, hfr] at q4
              refine am_goN vX9_readStorm 7 ?_
              refine And.intro ⟨by omega, by omega⟩ ?_
              rw [hct1n]
              refine fun y1 ey1 I2 e2 => ?_
              have hct2 : (I2 35 0 0).toInt = P.2.1.length := by rw [e2, up3_v _ (by decide)]; exact hct1
              have hct2n : (I2 35 0 0).toInt.toNat = P.2.1.length := by omega
              refine am_goN vX9_readStorm 7 ?_
              refine And.intro ⟨by omega, by omega⟩ ?_
              rw [hct2n]
              refine fun y2 ey2 I3 e3 => ?_
              have f3 : FrI (V0 [118, 119]) I1 I3 := by
                rw [e3, e2]
                exact (FrI.rf.up rfl).up rfl
              have hpv : ∀ i, ∀ v ∈ pvars, V0 [118, 119] v i = false := fun q v hv => V0_outI (by decide) v hv q
              refine am_goN vX9_readStorm 2 ?_
              refine s_pclear (fun I4 f4 p4 => ?_)
              have hN : ∀ (j : Nat) (w : List Int), j ≠ P.2.1.length → NmAt I1 sz bs j w → NmAt I4 sz bs j w := by
                intro j w hne ⟨a, b, h1, h2, h3, h4, h5⟩
                exact ⟨a, b, h1, h2, by rw [f4 _ _ (V1_out (vs := [118]) (by decide) _ (by decide) _), e3, up3_v _ (by decide), e2, up3_j _ hne]; exact h3, by rw [f4 _ _ (V1_out (vs := [119]) (by decide) _ (by decide) _), e3, up3_j _ hne, e2, up3_v _ (by decide)]; exact h4, h5⟩
              refine am_goN vX9_readStorm 10 ?_
              refine And.intro rfl ?_
              refine hy _ rfl I4 _ FrC.cu (f1'.tr ((V0_rd f3 (by decide)).tr (V1_rd f4 (by omega)))) (by rw [f4 _ _ (V1_out (vs := [37]) (by decide) _ (by decide) _), f3 _ _ rfl]; exact hf1) (by rw [f4 _ _ (V1_out (vs := [41]) (by decide) _ (by decide) _), f3 _ _ rfl]; exact c1.at9 (Or.inl hnm.1)) ⟨up3_s .., ?_, ?_, p4, fun _ => ?_, trivial, fun j s hj => ?_, fun w2 hw2 => ?_⟩
              · rw [f4 _ _ (V1_out (vs := [35]) (by decide) _ (by decide) _), f3 _ _ rfl]
                exact q2
              · rw [f4 _ _ (V1_out (vs := [36]) (by decide) _ (by decide) _), f3 _ _ rfl, q3, hfr]
              · exact (q4.fr f3 (hpv 0)).ne f4 (by omega)
              · have hjl := (List.getElem?_eq_some_iff.mp hj).1
                have hjl : j < P.2.1.length := hjl
                exact ⟨((q7 j s hj).1.fr f3 (hpv _)).ne f4 (by omega), hN _ _ (by omega) (q7 j s hj).2⟩
              · have hw2 := Option.some.inj hw2
                subst hw2
                refine ⟨t1.2.1, t1.2.2.1, hok1.1, hok1.2.1, ?_, ?_, rfl⟩
                · rw [f4 _ _ (V1_out (vs := [118]) (by decide) _ (by decide) _), e3, up3_v _ (by decide), e2]
                  show up3 I1 _ 0 P.2.1.length y1 _ 0 P.2.1.length = _
                  rw [up3_s, ey1]
                  exact c1.2.1
                · rw [f4 _ _ (V1_out (vs := [119]) (by decide) _ (by decide) _), e3]
                  show up3 I2 _ 0 P.2.1.length y2 _ 0 P.2.1.length = _
                  rw [up3_s, ey2, e2, up3_v _ (by decide)]
                  exact c1.2.2.1
            · exact absurd rfl c
        · rw [zI_toInt (by omega) (by omega)] at c
          omega
      · rw [if_pos hnm] at hn
        refine And.intro (fun c => ?_) (fun _ => ?_)
        · rw [zI_toInt (by omega) (by omega)] at c
          omega
        refine am_goN vX9_readStorm 10 ?_
        refine s_failT (t := t1) (k := 1) hf1 rfl c1.2.1 (fun I5 f5 m5 => ?_)
        exact hn _ rfl I5 (f1'.tr (V0_rd f5 (by decide))) m5 t14
    · rw [hct] at hxj
      rw [if_pos (by omega)] at hn
      refine am_goN vX9_readStorm 10 ?_
      refine s_failT (t := t) (k := 3) hf rfl hm.2.1 (fun I5 f5 m5 => ?_)
      exact hn _ rfl I5 (V0_rd f5 (by decide)) m5 t34
  · rw [hot] at c2
    exact k18 (Or.inr (fun q => by rw [q] at c2; exact absurd c2 (Int.lt_irrefl 0)))
