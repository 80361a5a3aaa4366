/-! The reference reads storms and pieces. -/
def stormA (sz : Nat) (bs : Nat → Int) (t : TK) (P : PP) : PP ⊕ FLT := if P.2.1.length = 8 then .inr (3, t.st) else if ¬ isNm bs (tokA sz bs t.en) then .inr (1, (tokA sz bs t.en).st) else if (findS (twd bs (tokA sz bs t.en)) P.2.1).isSome then .inr (3, (tokA sz bs t.en).st) else .inl ((tokA sz bs t.en).en, P.2.1, some (twd bs (tokA sz bs t.en)), P.2.2.2.2.1, [], [])
set_option maxRecDepth 100000 in
theorem s_mreadStorm {Γ : AMG} {Q : QQ} {d : Nat} {I : II} {Lg : LJ} {R : RR} {gc : Nat → Nat} {sz : Nat} {bs : Nat → Int} {l : List MC} {t : TK} {P : PP} (hb : BSsok sz bs) (hx : MTx I sz bs l) (ht : TOK sz bs t) (hm : MTk I Lg sz bs t) (ht1 : t.1 = 1) (hP : MPs I Lg P) (hok : PPok l P) (hc : P.2.2.1 = none) (hfr : P.2.2.2.2.2 = [])
    (hn : ∀ f : FLT, stormA sz bs t P = .inr f → ∀ (I' : II) (Lg' : LJ), FrI (V0 mpv) I I' → MFlt I' f → Q (some (vI (zI 0))) I' Lg' R (GM gc))
    (hy : ∀ P' : PP, stormA sz bs t P = .inl P' → ∀ (I' : II) (Lg' : LJ), FrI (V0 mpy) I I' → I' 62 0 0 = zI P'.1 → P'.1 ≤ sz → MPs I' Lg' P' → Q (some (vI (zI 1))) I' Lg' R (GM gc)) :
    am_Sp Γ (d + 3) 0 0 mX12_readStorm [vR 12 0] I Lg R (GM gc) Q := by
  have hi0 : inS P = 0 := by unfold inS; rw [hc]
  have h8 := hok.1
  have hst : (I 69 0 0).toInt = P.2.1.length := by rw [hP.1, hi0, zI_toInt (by omega) (by omega)]; omega
  unfold stormA at hn hy
  refine am_runN vX12_readStorm 4 _ rfl rfl rfl rfl ?_
  refine And.intro (fun c => ?_) (fun c => ?_)
  · rw [hst, zI_toInt (by omega) (by omega)] at c
    rw [if_neg (by omega)] at hn hy
    refine am_goN vX12_readStorm 5 ?_
    refine s_goE hb hx ht hm (Or.inl ht1) hP (fun I1 Lg1 f1 w1 tx1 tk1 mt1 mp1 => ?_)
    generalize tokA sz bs t.en = t1 at *
    refine s_misName hb tk1 mt1 (fun hw => ?_) (fun hw => ?_)
    · rw [if_neg (fun z => z hw)] at hn hy
      obtain ⟨g1, g2, g3⟩ := mt1.word hb tk1 hw.1
      have hNM := mp1.names hok
      have hnl : (nmL P).length = P.2.1.length := by rw [nmL_len, hi0, Nat.add_zero]
      refine And.intro (fun _ => ?_) (fun c => ?_)
      · refine am_goN vX12_readStorm 6 ?_
        refine s_stormOf (N := nmL P) (w := twd bs t1) hNM (by rw [hnl]; exact h8) (by rw [mp1.1, hi0, hnl]; rfl) g1 g2 g3 (fun j hj hj2 => ?_) (fun hno => ?_)
        · have hjl := (List.getElem?_eq_some_iff.mp hj).1
          rw [hnl] at hjl
          obtain ⟨s, hs1, hs2⟩ := nmL_c (P := P) hjl
          rw [hs2] at hj
          have hj := Option.some.inj hj
          have hf : findS (twd bs t1) P.2.1 = some s.2 := by
            refine findS_some _ j (by rw [← hj]; exact hs1) (fun i x hi hx q => ?_)
            obtain ⟨y, hy1, hy2⟩ := nmL_c (P := P) (j := i) (by omega)
            rw [hx] at hy1
            cases hy1
            exact hj2 i hi (by rw [hy2, q])
          rw [hf] at hn
          refine And.intro (fun c => ?_) (fun _ => ?_)
          · rw [zI_toInt (by omega) (by omega), zI_toInt (by omega) (by omega)] at c
            omega
          refine am_goN vX12_readStorm 10 ?_
          refine s_bad mt1 rfl (Or.inr (Or.inl hw.1)) (fun I2 f2 m2 => ?_)
          exact ⟨Or.inl rfl, hn _ rfl I2 Lg1 (f1.trm (mbv_mpv f2)) m2⟩
        · have hf : findS (twd bs t1) P.2.1 = none := by
            refine findS_none _ (fun i x hx q => ?_)
            have hil := (List.getElem?_eq_some_iff.mp hx).1
            obtain ⟨y, hy1, hy2⟩ := nmL_c (P := P) (j := i) (by omega)
            rw [hx] at hy1
            cases hy1
            exact hno i (by rw [hy2, q])
          rw [hf] at hy
          refine And.intro (fun _ => ?_) (fun c => ?_)
          · obtain ⟨m1, m2, m3, m4, m5, m6, m7, m8, m9⟩ := mp1
            rw [hi0, Nat.add_zero] at m1
            rw [hi0] at m5
            have s1n : (I1 69 0 0).toInt.toNat = P.2.1.length := by rw [m1, zI_toInt (by omega) (by omega)]; omega
            have s1t : (I1 69 0 0).toInt = P.2.1.length := by rw [m1, zI_toInt (by omega) (by omega)]
            refine am_goN vX12_readStorm 60 ?_
            refine And.intro ⟨by omega, by omega⟩ ?_
            rw [s1n]
            refine fun y1 ey1 I2 e2 => ?_
            refine And.intro (Or.inr rfl) ?_
            refine fun y2 ey2 I3 e3 y3 ey3 I4 e4 => ?_
            have f4 : FrI (V0 [69, 71, 68]) I1 I4 := by rw [e4, e3, e2]; exact ((FrI.rf.up rfl).up rfl).up rfl
            refine s_mclear (i := 1) rfl (by omega) (fun I5 f5 r5 => ?_)
            refine ⟨Or.inr rfl, ?_⟩
            have hall : ∀ (i : Nat) (L : LST), i ≠ 1 → RLs I1 i L → RLs I5 i L := fun i L hi hr => (hr.fr f4 (V0_out (by decide))).ne f5 hi
            refine hy _ rfl I5 _ (f1.tr ((f4.mono (fun v i h => V0_sub (l2 := mpy) (by decide) h)).tr (mlv_mpv f5.1))) ?_ (tk1.ok hb).2.1 ⟨?_, ?_, ?_, ?_, r5, fun _ => hall _ _ (by omega) m5, trivial, fun j s hj => ⟨hall _ _ (by omega) (m8 j s hj).1, ?_⟩, fun w hw2 => ?_⟩
            · rw [f5.1 _ _ rfl, f4 _ _ rfl]; exact mt1.to (Or.inl hw.1)
            · rw [f5.1 _ _ rfl, e4, up3_v _ (by decide), e3, up3_v _ (by decide), e2, up3_s, ey1, m1, zI_add]; rfl
            · rw [f5.1 _ _ rfl, e4, up3_v _ (by decide), e3, up3_s, ey2]; rfl
            · rw [f5.1 _ _ rfl, f4 _ _ rfl, m3, hfr]
            · rw [f5.1 _ _ rfl, e4, up3_s, ey3]; rfl
            · have hjl := (List.getElem?_eq_some_iff.mp hj).1
              rw [up3_j _ (by show j ≠ P.2.1.length; have hjl : j < P.2.1.length := hjl; omega)]
              exact (m8 j s hj).2
            · have hw2 := Option.some.inj hw2
              show up3 Lg1 _ 0 P.2.1.length _ _ 0 P.2.1.length = _
              rw [up3_s, g1, hw2]
          · exact absurd rfl c
      · rw [zI_toInt (by omega) (by omega)] at c
        omega
    · rw [if_pos hw] at hn
      refine And.intro (fun c => ?_) (fun _ => ?_)
      · rw [zI_toInt (by omega) (by omega)] at c
        omega
      refine am_goN vX12_readStorm 10 ?_
      refine s_bad mt1 rfl (Or.inl rfl) (fun I2 f2 m2 => ?_)
      exact ⟨Or.inl rfl, hn _ rfl I2 Lg1 (f1.trm (mbv_mpv f2)) m2⟩
  · rw [hst, zI_toInt (by omega) (by omega)] at c
    rw [if_pos (by omega)] at hn
    refine am_goN vX12_readStorm 10 ?_
    refine s_bad hm rfl (Or.inr (Or.inl ht1)) (fun I1 f1 m1 => ?_)
    exact ⟨Or.inl rfl, hn _ rfl I1 Lg (mbv_mpv f1) m1⟩
set_option maxRecDepth 100000 in
theorem s_mreadPiece {Γ : AMG} {Q : QQ} {d : Nat} {I : II} {Lg : LJ} {R : RR} {gc : Nat → Nat} {sz : Nat} {bs : Nat → Int} {l : List MC} {t : TK} {P : PP} (hb : BSsok sz bs) (hl : MCsok l) (hx : MTx I sz bs l) (ht : TOK sz bs t) (hm : MTk I Lg sz bs t) (hP : MPs I Lg P) (hok : PPok l P)
    (hn : ∀ f : FLT, pieceA sz bs l t P = .inr f → ∀ (I' : II) (Lg' : LJ), FrI (V0 mpv) I I' → MFlt I' f → Q (some (vI (zI 0))) I' Lg' R (GM gc))
    (hy : ∀ P' : PP, pieceA sz bs l t P = .inl P' → ∀ (I' : II) (Lg' : LJ), FrI (V0 mpy) I I' → I' 62 0 0 = zI P'.1 → P'.1 ≤ sz → MPs I' Lg' P' → Q (some (vI (zI 1))) I' Lg' R (GM gc)) :
    am_Sp Γ (d + 4) 0 0 mX12_readPiece [vR 12 0] I Lg R (GM gc) Q := by
  have hin := inS_le (P := P)
  have h4 := hok.2.2.1
  have hdt : (I 70 0 0).toInt = P.2.2.2.2.2.length := by rw [hP.2.2.1, zI_toInt (by omega) (by omega)]
  have hit : (I 71 0 0).toInt = inS P := by rw [hP.2.1, zI_toInt (by omega) (by omega)]
  unfold pieceA at hn hy
  refine am_runN vX12_readPiece 3 _ rfl rfl rfl rfl ?_
  refine s_misAt hb ht hm (fun hw => ?_) (fun hAt => ?_)
  · rw [if_pos hw, useA_2] at hn hy
    refine And.intro (fun c => ?_) (fun _ => ?_)
    · rw [zI_toInt (by omega) (by omega)] at c
      omega
    refine am_goN vX12_readPiece 7 ?_
    refine s_goE hb hx ht hm (Or.inl hw.1) hP (fun I1 Lg1 f1 w1 tx1 tk1 mt1 mp1 => ?_)
    generalize tokA sz bs t.en = t1 at *
    refine s_mreadNumber (a := 0) (b := 2000) hb tk1 mt1 rfl rfl (by omega) (by omega) (fun he hv => ?_) (fun f hf2 I2 f2 m2 => ?_)
    · rw [he] at hn hy
      dsimp only at hn hy
      obtain ⟨z1, z2, z3⟩ := eNum_k he
      refine And.intro (fun _ => ?_) (fun c => ?_)
      · refine am_goN vX12_readPiece 60 ?_
        refine fun x1 ex1 => ?_
        refine s_goE hb tx1 tk1 mt1 (Or.inr (Or.inl z1)) mp1 (fun I2 Lg2 f2 w2 tx2 tk2 mt2 mp2 => ?_)
        refine s_mreadUse hb hl tx2 tk2 mt2 mp2 hok (ex1.trans hv) z2 z3 (fun f hf I3 Lg3 f3 w3 m3 => ?_) (fun p e hpe I3 Lg3 f3 w3 t3 p3 m3 => ?_)
        · rw [hf] at hn
          exact ⟨Or.inl rfl, hn _ rfl I3 Lg3 (f1.trm (f2.trm f3)) m3⟩
        · rw [hpe] at hy
          exact ⟨Or.inr rfl, hy _ rfl I3 Lg3 (f1.tr (f2.tr f3)) t3 p3 m3⟩
      · rw [zI_toInt (by omega) (by omega)] at c
        omega
    · rw [hf2] at hn
      refine And.intro (fun c => ?_) (fun _ => ?_)
      · rw [zI_toInt (by omega) (by omega)] at c
        omega
      refine am_goN vX12_readPiece 5 ?_
      exact ⟨Or.inl rfl, hn _ rfl I2 Lg1 (f1.trm (mbv_mpv f2)) m2⟩
  rw [if_neg hAt] at hn hy
  refine And.intro (fun _ => ?_) (fun c => ?_)
  · refine am_goN vX12_readPiece 3 ?_
    refine s_misPlay hb ht hm (fun hw => ?_) (fun hPl => ?_)
    · rw [if_pos hw] at hn hy
      refine And.intro (fun c => ?_) (fun _ => ?_)
      · rw [zI_toInt (by omega) (by omega)] at c
        omega
      refine am_goN vX12_readPiece 10 ?_
      refine s_mreadPlay hb hl hx ht hm hw.1 hP hok (fun f hf I3 Lg3 f3 w3 m3 => ?_) (fun p es lt hpe I3 Lg3 f3 w3 t3 p3 m3 => ?_)
      · rw [hf] at hn
        exact ⟨Or.inl rfl, hn _ rfl I3 Lg3 f3 m3⟩
      · rw [hpe] at hy
        exact ⟨Or.inr rfl, hy _ rfl I3 Lg3 f3 t3 p3 m3⟩
    rw [if_neg hPl] at hn hy
    refine And.intro (fun _ => ?_) (fun c => ?_)
    · refine am_goN vX12_readPiece 3 ?_
      refine s_misTimes hb ht hm (fun hw => ?_) (fun hTi => ?_)
      · rw [if_pos hw] at hn hy
        refine And.intro (fun c => ?_) (fun _ => ?_)
        · rw [zI_toInt (by omega) (by omega)] at c
          omega
        refine am_goN vX12_readPiece 10 ?_
        refine s_mreadTimes hb hx ht hm hw.1 hP hok (fun q I3 f3 m3 => ?_) (fun q f hf I3 Lg3 f3 w3 m3 => ?_) (fun q p m ev hpe I3 Lg3 f3 w3 t3 p3 m3 => ?_)
        · rw [if_pos q] at hn
          exact ⟨Or.inl rfl, hn _ rfl I3 Lg f3 m3⟩
        · rw [if_neg q, hf] at hn
          exact ⟨Or.inl rfl, hn _ rfl I3 Lg3 f3 m3⟩
        · rw [if_neg q, hpe] at hy
          exact ⟨Or.inr rfl, hy _ rfl I3 Lg3 f3 t3 p3 m3⟩
      rw [if_neg hTi] at hn hy
      refine And.intro (fun _ => ?_) (fun c => ?_)
      · have bad154 : pieceA sz bs l t P = .inr (1, t.st) → am_J Γ mX12_readPiece Q (d + 4) 0 0 154 [some (vR 12 0), none] [] I Lg R (GM gc) := by
          intro q
          unfold pieceA at q
          rw [if_neg hAt, if_neg hPl, if_neg hTi] at q
          rw [q] at hn
          refine am_goN vX12_readPiece 10 ?_
          refine s_bad hm rfl (Or.inl rfl) (fun I1 f1 m1 => ?_)
          exact ⟨Or.inl rfl, hn _ rfl I1 Lg (mbv_mpv f1) m1⟩
        by_cases hEn : isW bs t kEnd
        · rw [if_pos hEn] at hn hy
          refine am_goN vX12_readPiece 3 ?_
          refine s_misEnd hb ht hm (fun _ => ?_) (fun q => absurd hEn q)
          refine And.intro (fun c => ?_) (fun _ => ?_)
          · rw [zI_toInt (by omega) (by omega)] at c
            omega
          refine am_goN vX12_readPiece 3 ?_
          refine And.intro (fun c => ?_) (fun c => ?_)
          · rw [hdt] at c
            have hfr : P.2.2.2.2.2 = [] := List.length_eq_zero_iff.mp (by omega)
            rw [hfr] at hn hy
            refine am_goN vX12_readPiece 3 ?_
            refine s_misEnd hb ht hm (fun _ => ?_) (fun q => absurd hEn q)
            refine And.intro (fun c => ?_) (fun _ => ?_)
            · rw [zI_toInt (by omega) (by omega)] at c
              omega
            refine am_goN vX12_readPiece 3 ?_
            refine And.intro (fun c2 => ?_) (fun c2 => ?_)
            · rw [hit] at c2
              have hc : P.2.2.1 = none := by
                cases hh : P.2.2.1 with
                | none => rfl
                | some w => unfold inS at c2; rw [hh] at c2; exact absurd (show (1 : Int) = 0 from c2) (by decide)
              refine am_goN vX12_readPiece 3 ?_
              have hns : ¬ isW bs t kStorm := fun q => absurd (hEn.2.symm.trans q.2) (by decide)
              refine s_misStorm hb ht hm (fun q => absurd q hns) (fun _ => ?_)
              refine And.intro (fun _ => ?_) (fun c3 => ?_)
              · refine bad154 ?_
                unfold pieceA
                rw [if_neg hAt, if_neg hPl, if_neg hTi, if_pos hEn, hfr, hc]
              · rw [zI_toInt (by omega) (by omega)] at c3
                omega
            · rw [hit] at c2
              have h1 : inS P = 1 := by omega
              have hc : ∃ w, P.2.2.1 = some w := by
                cases hh : P.2.2.1 with
                | none => unfold inS at h1; rw [hh] at h1; cases h1
                | some w => exact ⟨w, rfl⟩
              obtain ⟨w, hc⟩ := hc
              have h8 := hok.2.1 (by rw [hc]; exact fun z => by cases z)
              rw [hc] at hy
              dsimp only at hy
              obtain ⟨m1, m2, m3, m4, m5, m6, m7, m8, m9⟩ := hP
              rw [h1] at m1 m5
              refine am_goN vX12_readPiece 60 ?_
              refine fun x1 ex1 => ?_
              have hx1 : x1 = zI (6 + P.2.1.length : Nat) := by rw [ex1, m1, zI_add]; congr 1; omega
              refine s_mclear (i := 6 + P.2.1.length) hx1 (by omega) (fun I1 f1 r1 => ?_)
              refine s_mpour (i := 1) (j := 6 + P.2.1.length) (lt := 0) (by omega) (by omega) (by omega) rfl hx1 rfl (by omega) (by omega) (m5.ne f1 (by omega)) r1 (fun I2 f2 r2 => ?_)
              refine And.intro (Or.inl rfl) ?_
              refine fun y1 ey1 I3 e3 y2 ey2 I4 e4 => ?_
              refine ⟨Or.inr rfl, ?_⟩
              have f4 : FrI (V0 [71, 68]) I2 I4 := by rw [e4, e3]; exact (FrI.rf.up rfl).up rfl
              have hall : ∀ (i : Nat) (L : LST), i ≠ 6 + P.2.1.length → RLs I i L → RLs I4 i L := fun i L hi hr => ((hr.ne f1 hi).ne f2 hi).fr f4 (V0_out (by decide))
              refine hy _ rfl I4 Lg ((mlv_mpv f1.1).tr ((mlv_mpv f2.1).tr (f4.mono (fun v i h => V0_sub (l2 := mpy) (by decide) h)))) ?_ (ht.ok hb).2.1 ⟨?_, ?_, ?_, ?_, ?_, (fun z => by cases z), trivial, (fun j s hj => ?_), (fun w hw => by cases hw)⟩
              · rw [f4 _ _ rfl, f2.1 _ _ rfl, f1.1 _ _ rfl]; exact hm.to (Or.inl hEn.1)
              · rw [f4 _ _ rfl, f2.1 _ _ rfl, f1.1 _ _ rfl, m1]
                show zI _ = zI ((P.2.1 ++ [(w, P.2.2.2.2.1)]).length + 0 : Nat)
                rw [List.length_append]
                rfl
              · rw [e4, up3_v _ (by decide), e3, up3_s, ey1]; rfl
              · rw [f4 _ _ rfl, f2.1 _ _ rfl, f1.1 _ _ rfl, m3, hfr]
              · rw [e4, up3_s, ey2]; rfl
              · exact hall 0 _ (by omega) (m6 h1)
              · rcases app_get hj with ⟨hj1, hj2⟩ | ⟨hj1, hj2⟩
                · subst hj1
                  subst hj2
                  refine ⟨?_, m9 w hc⟩
                  rw [shE_0] at r2
                  exact r2.fr f4 (V0_out (by decide))
                · exact ⟨hall _ _ (by omega) (m8 j s hj2).1, (m8 j s hj2).2⟩
          · rw [hdt] at c
            cases hfr : P.2.2.2.2.2 with
            | nil => rw [hfr] at c; exact absurd c (by simp)
            | cons f r =>
              rw [hfr] at hn hy
              dsimp only at hn hy
              refine am_goN vX12_readPiece 10 ?_
              refine s_mendTimes (p := t.en) hP hok hfr (fun I1 f1 t1 m1 => ?_)
              exact ⟨Or.inr rfl, hy _ rfl I1 Lg f1 (by rw [t1]; exact hm.to (Or.inl hEn.1)) (ht.ok hb).2.1 m1⟩
        · rw [if_neg hEn] at hn hy
          have k128 : am_J Γ mX12_readPiece Q (d + 4) 0 0 128 [some (vR 12 0), none] [] I Lg R (GM gc) := by
            refine am_goN vX12_readPiece 3 ?_
            refine s_misStorm hb ht hm (fun hSt => ?_) (fun hSt => ?_)
            · rw [if_pos hSt] at hn hy
              refine And.intro (fun c => ?_) (fun _ => ?_)
              · rw [zI_toInt (by omega) (by omega)] at c
                omega
              refine am_goN vX12_readPiece 3 ?_
              refine And.intro (fun c2 => ?_) (fun c2 => ?_)
              · rw [hit] at c2
                refine bad154 ?_
                unfold pieceA
                rw [if_neg hAt, if_neg hPl, if_neg hTi, if_neg hEn, if_pos hSt]
                cases hh : P.2.2.1 with
                | none => exact absurd (show (inS P : Int) = 0 by unfold inS; rw [hh]; rfl) c2
                | some w =>
                  cases P.2.2.2.2.2 with
                  | nil => rfl
                  | cons f r => rfl
              · rw [hit] at c2
                have hc : P.2.2.1 = none := by
                  cases hh : P.2.2.1 with
                  | none => rfl
                  | some w => unfold inS at c2; rw [hh] at c2; exact absurd (show (1 : Int) = 0 from c2) (by decide)
                refine am_goN vX12_readPiece 3 ?_
                refine And.intro (fun c3 => ?_) (fun c3 => ?_)
                · rw [hdt] at c3
                  refine bad154 ?_
                  unfold pieceA
                  rw [if_neg hAt, if_neg hPl, if_neg hTi, if_neg hEn, if_pos hSt]
                  cases hh : P.2.2.2.2.2 with
                  | nil => rw [hh] at c3; exact absurd rfl c3
                  | cons f r => rfl
                · rw [hdt] at c3
                  have hfr : P.2.2.2.2.2 = [] := List.length_eq_zero_iff.mp (by omega)
                  rw [hfr, hc] at hn hy
                  refine am_goN vX12_readPiece 10 ?_
                  refine s_mreadStorm hb hx ht hm hSt.1 hP hok hc hfr (fun f hf I3 Lg3 f3 m3 => ?_) (fun P' hp' I3 Lg3 f3 t3 p3 m3 => ?_)
                  · exact ⟨Or.inl rfl, hn f hf I3 Lg3 f3 m3⟩
                  · exact ⟨Or.inr rfl, hy P' hp' I3 Lg3 f3 t3 p3 m3⟩
            · refine And.intro (fun _ => ?_) (fun c => ?_)
              · refine bad154 ?_
                unfold pieceA
                rw [if_neg hAt, if_neg hPl, if_neg hTi, if_neg hEn, if_neg hSt]
              · rw [zI_toInt (by omega) (by omega)] at c
                omega
          refine am_goN vX12_readPiece 3 ?_
          refine s_misEnd hb ht hm (fun q => absurd q hEn) (fun _ => ?_)
          refine And.intro (fun _ => ?_) (fun c => ?_)
          · refine am_goN vX12_readPiece 3 ?_
            refine s_misEnd hb ht hm (fun q => absurd q hEn) (fun _ => ?_)
            refine And.intro (fun _ => k128) (fun c => ?_)
            rw [zI_toInt (by omega) (by omega)] at c
            omega
          · rw [zI_toInt (by omega) (by omega)] at c
            omega
      · rw [zI_toInt (by omega) (by omega)] at c
        omega
    · rw [zI_toInt (by omega) (by omega)] at c
      omega
  · rw [zI_toInt (by omega) (by omega)] at c
    omega
