/-! The reference reads times and storms. -/
theorem MFrm.times {I I' : II} {s i : Nat} (hf : FrI (V0 [68, 70, 152, 153]) I I') (ht : ∀ j, j ≠ i → I' 152 0 j = I 152 0 j ∧ I' 153 0 j = I 153 0 j) : ∀ fr : List FRM, s + fr.length < i → MFrm I s fr → MFrm I' s fr
  | [], _, _ => trivial
  | f :: r, hi, h => by
    rw [List.length_cons] at hi
    obtain ⟨q1, q2⟩ := ht (s + r.length + 1) (by omega)
    exact ⟨h.1.fr hf (V0_out (by decide)), by rw [q1]; exact h.2.1, by rw [q2]; exact h.2.2.1, MFrm.times hf ht r (by omega) h.2.2.2⟩
set_option maxRecDepth 100000 in
theorem s_mreadTimes {Γ : AMG} {Q : QQ} {d : Nat} {I : II} {Lg : LJ} {R : RR} {gc : Nat → Nat} {sz : Nat} {bs : Nat → Int} {l : List MC} {t : TK} {P : PP} (hb : BSsok sz bs) (hx : MTx I sz bs l) (ht : TOK sz bs t) (hm : MTk I Lg sz bs t) (ht1 : t.1 = 1) (hP : MPs I Lg P) (hok : PPok l P)
    (h3 : P.2.2.2.2.2.length = 4 → ∀ (I' : II), FrI (V0 mpv) I I' → MFlt I' (3, t.st) → Q (some (vI (zI 0))) I' Lg R (GM gc))
    (hn : P.2.2.2.2.2.length ≠ 4 → ∀ f : FLT, timesA sz bs t.en = .inr f → ∀ (I' : II) (Lg' : LJ), FrI (V0 mpv) I I' → FrW Lg Lg' → MFlt I' f → Q (some (vI (zI 0))) I' Lg' R (GM gc))
    (hy : P.2.2.2.2.2.length ≠ 4 → ∀ (p : Nat) (m ev : Int), timesA sz bs t.en = .inl (p, m, ev) → ∀ (I' : II) (Lg' : LJ), FrI (V0 mpy) I I' → FrW Lg Lg' → I' 62 0 0 = zI p → p ≤ sz → MPs I' Lg' (withL P p (P.2.2.2.2.1, (m, ev, []) :: P.2.2.2.2.2)) → Q (some (vI (zI 1))) I' Lg' R (GM gc)) :
    am_Sp Γ (d + 2) 0 0 mX12_readTimes [vR 12 0] I Lg R (GM gc) Q := by
  have hin := inS_le (P := P)
  have h4 := hok.2.2.1
  have hdt : (I 70 0 0).toInt = P.2.2.2.2.2.length := by rw [hP.2.2.1, zI_toInt (by omega) (by omega)]
  unfold timesA at hn hy
  refine am_runN vX12_readTimes 4 _ rfl rfl rfl rfl ?_
  refine And.intro (fun c => ?_) (fun c => ?_)
  · rw [hdt, zI_toInt (by omega) (by omega)] at c
    have c' : P.2.2.2.2.2.length ≠ 4 := by omega
    replace hn := hn c'
    replace hy := hy c'
    refine am_goN vX12_readTimes 7 ?_
    refine s_goE hb hx ht hm (Or.inl ht1) hP (fun I1 Lg1 f1 w1 tx1 tk1 mt1 mp1 => ?_)
    generalize tokA sz bs t.en = t1 at *
    refine s_mreadNumber (a := 1) (b := 20) hb tk1 mt1 rfl rfl (by omega) (by omega) (fun he hv => ?_) (fun f hf2 I2 f2 m2 => ?_)
    · rw [he] at hn hy
      dsimp only at hn hy
      obtain ⟨z1, z2, z3⟩ := eNum_k he
      refine And.intro (fun _ => ?_) (fun c => ?_)
      · refine am_goN vX12_readTimes 8 ?_
        refine fun x1 ex1 => ?_
        have hx1 : x1 = zI t1.val := ex1.trans hv
        refine s_goE hb tx1 tk1 mt1 (Or.inr (Or.inl z1)) mp1 (fun I2 Lg2 f2 w2 tx2 tk2 mt2 mp2 => ?_)
        generalize tokA sz bs t1.en = t2 at *
        refine s_misEvery hb tk2 mt2 (fun hw2 => ?_) (fun hw2 => ?_)
        · have e1 : eWord bs t2 kEvery = none := by unfold eWord; rw [if_pos hw2]
          rw [e1] at hn hy
          dsimp only at hn hy
          refine And.intro (fun _ => ?_) (fun c => ?_)
          · refine am_goN vX12_readTimes 7 ?_
            refine s_goE hb tx2 tk2 mt2 (Or.inl hw2.1) mp2 (fun I3 Lg3 f3 w3 tx3 tk3 mt3 mp3 => ?_)
            generalize tokA sz bs t2.en = t3 at *
            have f13 : FrI (V0 mpy) I I3 := f1.tr (f2.tr f3)
            have w13 : FrW Lg Lg3 := w1.tr (w2.tr w3)
            refine s_mreadNumber (a := 1) (b := 2000) hb tk3 mt3 rfl rfl (by omega) (by omega) (fun he3 hv3 => ?_) (fun f hf2 I4 f4 m4 => ?_)
            · rw [he3] at hn hy
              dsimp only at hn hy
              obtain ⟨y1, y2, y3⟩ := eNum_k he3
              refine And.intro (fun _ => ?_) (fun c => ?_)
              · obtain ⟨g1, g2, g3, g4, g5, g6, g7, g8, g9⟩ := mp3
                refine am_goN vX12_readTimes 60 ?_
                refine fun u1 eu1 I4 e4 u2 eu2 I5 e5 => ?_
                have o4 : I4 68 0 0 = zI (inS P + P.2.2.2.2.2.length + 1 : Nat) := by rw [e4, up3_s, eu1, g4, zI_add]; congr 1
                have o5 : I5 68 0 0 = zI (inS P + P.2.2.2.2.2.length + 1 : Nat) := by rw [e5, up3_v _ (by decide)]; exact o4
                have d5 : I5 70 0 0 = zI (P.2.2.2.2.2.length + 1 : Nat) := by rw [e5, up3_s, eu2, e4, up3_v _ (by decide), g3, zI_add]; congr 1
                have f5 : FrI (V0 [68, 70, 152, 153]) I3 I5 := by rw [e5, e4]; exact (FrI.rf.up rfl).up rfl
                refine s_mclear (i := inS P + P.2.2.2.2.2.length + 1) o5 (by omega) (fun I6 f6 r6 => ?_)
                have o6 : I6 68 0 0 = zI (inS P + P.2.2.2.2.2.length + 1 : Nat) := by rw [f6.1 _ _ rfl]; exact o5
                have ot6 : (I6 68 0 0).toInt = (inS P + P.2.2.2.2.2.length + 1 : Nat) := by rw [o6, zI_toInt (by omega) (by omega)]
                have on6 : (I6 68 0 0).toInt.toNat = inS P + P.2.2.2.2.2.length + 1 := by rw [ot6]; omega
                refine And.intro ⟨by omega, by omega⟩ ?_
                rw [on6]
                refine fun u3 eu3 I7 e7 => ?_
                have o7 : I7 68 0 0 = I6 68 0 0 := by rw [e7, up3_v _ (by decide)]
                refine And.intro ⟨by rw [o7]; omega, by rw [o7]; omega⟩ ?_
                rw [o7, on6]
                refine fun u4 eu4 I8 e8 => ?_
                refine ⟨Or.inr rfl, ?_⟩
                have f8 : FrI (V0 [68, 70, 152, 153]) I6 I8 := by rw [e8, e7]; exact (FrI.rf.up rfl).up rfl
                have r8 : ∀ j, I8 152 0 j = if j = inS P + P.2.2.2.2.2.length + 1 then x1 else I6 152 0 j := fun j => by rw [e8, up3_v _ (by decide), e7, up3_a, eu3]; simp
                have r9 : ∀ j, I8 153 0 j = if j = inS P + P.2.2.2.2.2.length + 1 then u4 else I6 153 0 j := fun j => by rw [e8, up3_a, e7, up3_v _ (by decide)]; simp
                have hu4 : u4 = zI t3.val := by rw [eu4, e7, up3_v _ (by decide), f6.1 _ _ rfl, f5 _ _ rfl]; exact hv3
                have hall : ∀ (i : Nat) (L : LST), i ≠ inS P + P.2.2.2.2.2.length + 1 → RLs I3 i L → RLs I8 i L := fun i L hi hr => ((hr.fr f5 (V0_out (by decide))).ne f6 hi).fr f8 (V0_out (by decide))
                have f38 : FrI (V0 mpy) I3 I8 := (f5.mono (fun v i h => V0_sub (by decide) h)).tr ((mlv_mpv f6.1).tr (f8.mono (fun v i h => V0_sub (by decide) h)))
                refine hy _ _ _ rfl I8 Lg3 (f13.tr f38) w13 ?_ (tk3.ok hb).2.1 ⟨?_, ?_, ?_, ?_, hall _ _ ?_ g5, fun z => hall _ _ (by omega) (g6 z), ⟨r6.fr f8 (V0_out (by decide)), ?_, ?_, ?_⟩, fun j s hj => ⟨hall _ _ (by omega) (g8 j s hj).1, (g8 j s hj).2⟩, g9⟩
                · rw [f8 _ _ rfl, f6.1 _ _ rfl, f5 _ _ rfl]; exact mt3.to (Or.inr (Or.inl y1))
                · rw [f8 _ _ rfl, f6.1 _ _ rfl, f5 _ _ rfl]; exact g1
                · rw [f8 _ _ rfl, f6.1 _ _ rfl, f5 _ _ rfl]; exact g2
                · rw [e8, up3_v _ (by decide), e7, up3_v _ (by decide), f6.1 _ _ rfl]; exact d5
                · rw [e8, up3_v _ (by decide), e7, up3_v _ (by decide)]; exact o6
                · show inS P ≠ _
                  omega
                · show I8 152 0 (inS P + P.2.2.2.2.2.length + 1) = _
                  rw [r8, if_pos rfl]; exact hx1
                · show I8 153 0 (inS P + P.2.2.2.2.2.length + 1) = _
                  rw [r9, if_pos rfl]; exact hu4
                · have m5 : MFrm I5 (inS P) P.2.2.2.2.2 := MFrm.times (i := inS P + P.2.2.2.2.2.length + 1) f5 (fun j _ => ⟨by rw [e5, up3_v _ (by decide), e4, up3_v _ (by decide)], by rw [e5, up3_v _ (by decide), e4, up3_v _ (by decide)]⟩) _ (by omega) g7
                  show MFrm I8 (inS P) P.2.2.2.2.2
                  exact MFrm.times (i := inS P + P.2.2.2.2.2.length + 1) f8 (fun j hj => ⟨by rw [r8, if_neg hj], by rw [r9, if_neg hj]⟩) _ (by omega) (MFrm.ne f6 _ (by omega) m5)
              · rw [zI_toInt (by omega) (by omega)] at c
                omega
            · rw [hf2] at hn
              refine And.intro (fun c => ?_) (fun _ => ?_)
              · rw [zI_toInt (by omega) (by omega)] at c
                omega
              refine am_goN vX12_readTimes 5 ?_
              exact ⟨Or.inl rfl, hn _ rfl I4 Lg3 (f13.trm (mbv_mpv f4)) w13 m4⟩
          · rw [zI_toInt (by omega) (by omega)] at c
            omega
        · have e1 : eWord bs t2 kEvery = some (1, t2.2.1) := by unfold eWord; rw [if_neg hw2]
          rw [e1] at hn
          refine And.intro (fun c => ?_) (fun _ => ?_)
          · rw [zI_toInt (by omega) (by omega)] at c
            omega
          refine am_goN vX12_readTimes 10 ?_
          refine s_bad mt2 rfl (Or.inl rfl) (fun I3 f3 m3 => ?_)
          exact ⟨Or.inl rfl, hn _ rfl I3 Lg2 (f1.trm (f2.trm (mbv_mpv f3))) (w1.tr w2) m3⟩
      · rw [zI_toInt (by omega) (by omega)] at c
        omega
    · rw [hf2] at hn
      refine And.intro (fun c => ?_) (fun _ => ?_)
      · rw [zI_toInt (by omega) (by omega)] at c
        omega
      refine am_goN vX12_readTimes 5 ?_
      exact ⟨Or.inl rfl, hn _ rfl I2 Lg1 (f1.trm (mbv_mpv f2)) w1 m2⟩
  · rw [hdt, zI_toInt (by omega) (by omega)] at c
    refine am_goN vX12_readTimes 10 ?_
    refine s_bad hm rfl (Or.inr (Or.inl ht1)) (fun I1 f1 m1 => ?_)
    exact ⟨Or.inl rfl, h3 (by omega) I1 (mbv_mpv f1) m1⟩
/-! The end of times. -/
theorem repL_app {L : LST} {ev : Int} : ∀ (k n : Nat), k ≤ n → ∃ M, repL L ev n = repL L ev k ++ M
  | k, 0, h => ⟨[], by rw [show k = 0 by omega, List.append_nil]⟩
  | k, n + 1, h => by
    by_cases q : k = n + 1
    · exact ⟨[], by rw [q, List.append_nil]⟩
    · obtain ⟨M, hM⟩ := repL_app k n (by omega)
      exact ⟨M ++ L.map (shE (n * ev)), by show repL L ev n ++ L.map (shE (n * ev)) = _; rw [hM, List.append_assoc]⟩
theorem Rel.flag {S : PS} {L M : LST} (h : Rel S L) (hf : S.2 = true) : Rel S (L ++ M) := by
  rcases h with ⟨h1, h2⟩ | ⟨h1, -⟩
  · exact Or.inl ⟨h1, badL_app h2⟩
  · rw [hf] at h1; cases h1
theorem endT_loop {Γ : AMG} {Q : QQ} {d o : Nat} {x1 : Int32} {mn ev : Int} {I : II} {Lg : LJ} {R : RR} {gc : Nat → Nat} {L T : LST} (ho : o + 1 < 6) (hx1 : x1 = zI (o + 1 : Nat)) (hop : I 68 0 0 = zI o) (hti : I 152 0 (o + 1) = zI mn) (hev : I 153 0 (o + 1) = zI ev) (hm0 : 1 ≤ mn) (hm1 : mn ≤ 20) (he0 : 1 ≤ ev) (he1 : ev ≤ 2000)
    (h : ∀ I' : II, LFr o I I' → RLs I' o (L ++ repL T ev mn.toNat) → Q none I' Lg R (GM gc)) :
    ∀ (m k : Nat) (x2 : Int32) (I1 : II), k + m = mn.toNat → x2 = zI k → LFr o I I1 → RLs I1 (o + 1) T → RLs I1 o (L ++ repL T ev k) →
      am_J Γ mX12_endTimes Q (d + 2) 0 0 27 [some (vR 12 0), some (vI x1), some (vI x2)] [] I1 Lg R (GM gc) := by
  have hx1t : x1.toInt = (o + 1 : Nat) := by rw [hx1, zI_toInt (by omega) (by omega)]
  have hx1n : x1.toInt.toNat = o + 1 := by rw [hx1t]; omega
  intro m
  induction m with
  | zero =>
    intro k x2 I1 hm hx hf hT hL
    have htt : (I1 152 0 (o + 1)).toInt = mn := by rw [hf.1 _ _ rfl, hti, zI_toInt (by omega) (by omega)]
    refine am_goN vX12_endTimes 60 ?_
    refine And.intro ⟨by omega, by omega⟩ ?_
    rw [hx1n]
    refine And.intro (fun c => ?_) (fun c => ?_)
    · rw [show k = mn.toNat by omega] at hL
      exact h I1 hf hL
    · rw [htt, hx, zI_toInt (by omega) (by omega)] at c
      omega
  | succ m ih =>
    intro k x2 I1 hm hx hf hT hL
    have htt : (I1 152 0 (o + 1)).toInt = mn := by rw [hf.1 _ _ rfl, hti, zI_toInt (by omega) (by omega)]
    have hop1 : I1 68 0 0 = zI o := by rw [hf.1 _ _ rfl]; exact hop
    have hopt : (I1 68 0 0).toInt = o := by rw [hop1, zI_toInt (by omega) (by omega)]
    have hopn : (I1 68 0 0).toInt.toNat = o := by rw [hopt]; omega
    obtain ⟨S, hS, rS⟩ := id hL
    refine am_goN vX12_endTimes 60 ?_
    refine And.intro ⟨by omega, by omega⟩ ?_
    rw [hx1n]
    refine And.intro (fun c => ?_) (fun c => ?_)
    · rw [htt, hx, zI_toInt (by omega) (by omega)] at c
      omega
    refine And.intro ⟨by omega, by omega⟩ ?_
    rw [hopn, hS.2.2.1]
    refine And.intro (fun c2 => ?_) (fun c2 => ?_)
    · have hf2 : S.2 = true := by
        cases hh : S.2
        · rw [hh] at c2
          have c2 : (zI 0).toInt ≠ 0 := c2
          exact absurd (zI_toInt (by omega) (by omega)) c2
        · rfl
      obtain ⟨M, hM⟩ := repL_app (L := T) (ev := ev) k mn.toNat (by omega)
      refine h I1 hf ⟨S, hS, ?_⟩
      rw [hM, ← List.append_assoc]
      exact rS.flag hf2
    · refine And.intro ⟨by omega, by omega⟩ ?_
      rw [hx1n]
      have hpr := prod_rng (f := (k : Int)) (r := ev) (A := 20) (B := 2000) (by omega) (by omega) (by omega) he1 (by omega)
      have hp0 : 0 ≤ (k : Int) * ev := Int.mul_nonneg (by omega) (by omega)
      refine s_mpour (i := o + 1) (j := o) (lt := k * ev) (by omega) (by omega) (by omega) hx1 hop1 (by rw [hf.1 _ _ rfl, hev, hx, zI_mul]) hp0 (by omega) hT hL (fun I2 f2 r2 => ?_)
      refine fun y ey => ?_
      refine ih (k + 1) y I2 (by omega) (by rw [ey, hx, zI_add]; congr 1) (hf.tr f2) (hT.ne f2 (by omega)) ?_
      unfold repL
      rw [← List.append_assoc]
      exact r2
set_option maxRecDepth 100000 in
theorem s_mendTimes {Γ : AMG} {Q : QQ} {d p : Nat} {I : II} {Lg : LJ} {R : RR} {gc : Nat → Nat} {l : List MC} {P : PP} {f : FRM} {r : List FRM} (hP : MPs I Lg P) (hok : PPok l P) (hfr : P.2.2.2.2.2 = f :: r)
    (h : ∀ I' : II, FrI (V0 mpy) I I' → I' 62 0 0 = I 62 0 0 → MPs I' Lg (withL P p (addL P.2.2.2.2.1 r (repL f.2.2 f.2.1 f.1.toNat))) → Q none I' Lg R (GM gc)) :
    am_Sp Γ (d + 2) 0 0 mX12_endTimes [vR 12 0] I Lg R (GM gc) Q := by
  have hin := inS_le (P := P)
  have h4 := hok.2.2.1
  have hv := hok.2.2.2.2.2.1
  obtain ⟨g1, g2, g3, g4, g5, g6, g7, g8, g9⟩ := hP
  rw [hfr] at h4 hv g3 g4 g7
  rw [List.length_cons] at h4 g3 g4
  obtain ⟨q1, q2, q3, q4⟩ := g7
  obtain ⟨⟨v1, v2, v3, v4⟩, -⟩ := hv
  refine am_runN vX12_endTimes 60 _ rfl rfl rfl rfl ?_
  refine fun x1 ex1 y1 ey1 I1 e1 y2 ey2 I2 e2 x2 ex2 => ?_
  have f2 : FrI (V0 [68, 70, 152, 153]) I I2 := by rw [e2, e1]; exact (FrI.rf.up rfl).up rfl
  have o2 : I2 68 0 0 = zI (inS P + r.length : Nat) := by
    rw [e2, up3_v _ (by decide), e1, up3_s, ey1, g4, zI_sub]
    congr 1
    omega
  have d2 : I2 70 0 0 = zI r.length := by
    rw [e2, up3_s, ey2, e1, up3_v _ (by decide), g3, zI_sub]
    congr 1
    omega
  have tm : ∀ j, I2 152 0 j = I 152 0 j ∧ I2 153 0 j = I 153 0 j := fun j => ⟨by rw [e2, up3_v _ (by decide), e1, up3_v _ (by decide)], by rw [e2, up3_v _ (by decide), e1, up3_v _ (by decide)]⟩
  have hall : ∀ (i : Nat) (L : LST), RLs I i L → RLs I2 i L := fun i L hr => hr.fr f2 (V0_out (by decide))
  -- as if the innermost times were gone
  have m2 : MPs I2 Lg (withL P p (P.2.2.2.2.1, r)) := ⟨by rw [f2 _ _ rfl]; exact g1, by rw [f2 _ _ rfl]; exact g2, d2, o2, hall _ _ g5, fun z => hall _ _ (g6 z), MFrm.times (s := inS P) (i := inS P + r.length + 1) f2 (fun j _ => tm j) r (by omega) q4, fun j s hj => ⟨hall _ _ (g8 j s hj).1, (g8 j s hj).2⟩, g9⟩
  have hinn : RLs I2 (inS P + r.length) (innerL (withL P p (P.2.2.2.2.1, r))) := m2.inner
  refine endT_loop (o := inS P + r.length) (mn := f.1) (ev := f.2.1) (L := innerL (withL P p (P.2.2.2.2.1, r))) (T := f.2.2) (by omega) (by rw [ex1, g4]; congr 1) o2 (by rw [(tm _).1]; exact q2) (by rw [(tm _).2]; exact q3) v1 v2 v3 v4 (fun I3 f3 r3 => ?_) f.1.toNat 0 x2 I2 (by omega) ex2 LFr.rf (hall _ _ q1) (by show RLs _ _ (_ ++ []); rw [List.append_nil]; exact hinn)
  refine h I3 ((f2.mono (fun v i h => V0_sub (by decide) h)).tr (mlv_mpv f3.1)) (by rw [f3.1 _ _ rfl, f2 _ _ rfl]) ?_
  exact MPs.add (P := withL P p (P.2.2.2.2.1, r)) (p := p) m2 (by show r.length ≤ 4; omega) f3 r3
