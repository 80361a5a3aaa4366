/-! The reference's score. -/
theorem scoreA_f {sz : Nat} {bs : Nat → Int} {l : List MC} {e : FLT} (h : parseA sz bs l 641 PP0 = .inr e) : scoreA sz bs l = .inr e := by
  unfold scoreA
  rw [h]
theorem scoreA_6 {sz : Nat} {bs : Nat → Int} {l : List MC} {P : PP} (h : parseA sz bs l 641 PP0 = .inl P) (hs : 600 < sz) : scoreA sz bs l = .inr (1, 600) := by
  unfold scoreA
  rw [h]
  dsimp only
  rw [if_pos hs]
theorem scoreA_4 {sz : Nat} {bs : Nat → Int} {l : List MC} {P : PP} (h : parseA sz bs l 641 PP0 = .inl P) (hs : ¬ 600 < sz) (hb : badL P.2.2.2.2.1) : scoreA sz bs l = .inr (4, sz) := by
  unfold scoreA
  rw [h]
  dsimp only
  rw [if_neg hs, if_pos hb]
theorem scoreA_y {sz : Nat} {bs : Nat → Int} {l : List MC} {P : PP} (h : parseA sz bs l 641 PP0 = .inl P) (hs : ¬ 600 < sz) (hb : ¬ badL P.2.2.2.2.1) : scoreA sz bs l = .inl P.2.2.2.2.1 := by
  unfold scoreA
  rw [h]
  dsimp only
  rw [if_neg hs, if_neg hb]
abbrev mso : List Nat := [154, 155, 156]
def Rked (I : II) (L : LST) (n : Nat) : Prop := ∀ (k : Nat) (e : EV), k < n → L[k]? = some e → I 154 0 (rkN L L.length k) = zI e.1 ∧ I 155 0 (rkN L L.length k) = zI e.2.1 ∧ I 156 0 (rkN L L.length k) = zI e.2.2
theorem Rked.mp {I : II} {L : LST} (h : Rked I L L.length) (hev : I 72 0 0 = zI L.length) : MPAt I (srt L) := by
  have hlen : (srt L).length = L.length := srtN_len _
  refine ⟨by rw [hlen]; exact hev, fun j e he => ?_⟩
  have hj := (List.getElem?_eq_some_iff.mp he).1
  rw [hlen] at hj
  obtain ⟨s1, -, -⟩ := srt_spec (es := L) (L.length - 1) (by omega)
  obtain ⟨k, k1, k2, k3⟩ := s1 j (by omega)
  rw [show L.length - 1 + 1 = L.length by omega] at k2
  have he' : L[k]? = some e := by rw [← k3]; exact he
  have := h k e (by omega) he'
  rw [k2] at this
  exact this
theorem mrk_in {Γ : AMG} {Q : QQ} {d k : Nat} {x1 : Int32} {I : II} {Lg : LJ} {R : RR} {gc : Nat → Nat} {L : LST} (hl : L.length ≤ 24) (hev : I 72 0 0 = zI L.length) (hL : ∀ (k : Nat) (e : EV), L[k]? = some e → I 148 0 k = zI e.1 ∧ 0 ≤ e.1 ∧ e.1 ≤ 4000) (hx1 : x1 = zI k) (hk : k < L.length)
    (h : ∀ x2 x3 : Int32, x2 = zI (rkN L L.length k) → am_J Γ mX12_score Q d 0 0 214 [some (vR 12 0), some (vI x1), some (vI x2), some (vI x3)] [] I Lg R (GM gc)) :
    ∀ (m i : Nat) (x2 x3 : Int32), i + m = L.length → x3 = zI i → x2 = zI (cntB (ahd L k) i) → am_J Γ mX12_score Q d 0 0 162 [some (vR 12 0), some (vI x1), some (vI x2), some (vI x3)] [] I Lg R (GM gc) := by
  have het : (I 72 0 0).toInt = L.length := by rw [hev, zI_toInt (by omega) (by omega)]
  have hkt : x1.toInt = k := by rw [hx1, zI_toInt (by omega) (by omega)]
  have hkn : x1.toInt.toNat = k := by rw [hkt]; omega
  have hke : L[k]? = some L[k] := List.getElem?_eq_getElem hk
  generalize L[k] = ek at hke
  obtain ⟨t1, t2, t3⟩ := hL k ek hke
  have tk := tkA_e hke
  intro m
  induction m with
  | zero =>
    intro i x2 x3 hm hx3 hx2
    refine am_goN vX12_score 4 ?_
    refine And.intro (fun c => ?_) (fun c => ?_)
    · refine h x2 x3 ?_
      rw [hx2]
      unfold rkN
      rw [show i = L.length by omega]
    · rw [het, hx3, zI_toInt (by omega) (by omega)] at c
      omega
  | succ m ih =>
    intro i x2 x3 hm hx3 hx2
    have hit : x3.toInt = i := by rw [hx3, zI_toInt (by omega) (by omega)]
    have hin : x3.toInt.toNat = i := by rw [hit]; omega
    have hie : L[i]? = some L[i] := List.getElem?_eq_getElem (by omega)
    generalize L[i] = ei at hie
    obtain ⟨u1, u2, u3⟩ := hL i ei hie
    have ti := tkA_e hie
    have tit : (I 148 0 i).toInt = tkA L i := by rw [u1, zI_toInt (by omega) (by omega), ti]
    have tkt : (I 148 0 k).toInt = tkA L k := by rw [t1, zI_toInt (by omega) (by omega), tk]
    have k205 : ahd L k i = true → am_J Γ mX12_score Q d 0 0 205 [some (vR 12 0), some (vI x1), some (vI x2), some (vI x3)] [] I Lg R (GM gc) := by
      intro hy
      refine am_goN vX12_score 3 ?_
      refine fun y2 ey2 y3 ey3 => ?_
      refine ih (i + 1) y2 y3 (by omega) (by rw [ey3, hx3, zI_add]; congr 1) ?_
      rw [ey2, hx2, zI_add]
      show _ = zI (cntB (ahd L k) i + cond (ahd L k i) 1 0 : Nat)
      rw [hy]
      congr 1
    have k208 : ahd L k i = false → am_J Γ mX12_score Q d 0 0 208 [some (vR 12 0), some (vI x1), some (vI x2), some (vI x3)] [] I Lg R (GM gc) := by
      intro hy
      refine am_goN vX12_score 2 ?_
      refine fun y3 ey3 => ?_
      refine ih (i + 1) x2 y3 (by omega) (by rw [ey3, hx3, zI_add]; congr 1) ?_
      rw [hx2]
      show _ = zI (cntB (ahd L k) i + cond (ahd L k i) 1 0 : Nat)
      rw [hy]
      congr 1
    refine am_goN vX12_score 13 ?_
    refine And.intro (fun c => ?_) (fun c => ?_)
    · rw [het, hit] at c
      omega
    refine And.intro ⟨by omega, by omega⟩ ?_
    refine And.intro ⟨by omega, by omega⟩ ?_
    rw [hin, hkn]
    refine And.intro (fun c => ?_) (fun c => ?_)
    · rw [tit, tkt] at c
      exact k205 (by unfold ahd; simp; omega)
    · rw [tit, tkt] at c
      refine am_goN vX12_score 3 ?_
      refine And.intro (fun c2 => ?_) (fun c2 => ?_)
      · rw [hit, hkt] at c2
        exact k208 (by unfold ahd; simp; omega)
      · rw [hit, hkt] at c2
        refine am_goN vX12_score 9 ?_
        refine And.intro ⟨by omega, by omega⟩ ?_
        refine And.intro ⟨by omega, by omega⟩ ?_
        rw [hin, hkn]
        refine And.intro (fun c3 => ?_) (fun c3 => ?_)
        · rw [tit, tkt] at c3
          exact k208 (by unfold ahd; simp; omega)
        · rw [tit, tkt] at c3
          exact k205 (by unfold ahd; simp; omega)
theorem mrk_out {Γ : AMG} {Q : QQ} {d : Nat} {I : II} {Lg : LJ} {R : RR} {gc : Nat → Nat} {L : LST} (hl : L.length ≤ 24) (hev : I 72 0 0 = zI L.length) (hL : ∀ (k : Nat) (e : EV), L[k]? = some e → I 148 0 k = zI e.1 ∧ I 149 0 k = zI e.2.1 ∧ I 150 0 k = zI e.2.2 ∧ 0 ≤ e.1 ∧ e.1 ≤ 4000)
    (h : ∀ I' : II, FrI (V0 mso) I I' → MPAt I' (srt L) → Q (some (vI (zI L.length))) I' Lg R (GM gc)) :
    ∀ (m k : Nat) (x1 : Int32) (l2 l3 : Option AV) (I1 : II), k + m = L.length → x1 = zI k → FrI (V0 mso) I I1 → Rked I1 L k → am_J Γ mX12_score Q d 0 0 150 [some (vR 12 0), some (vI x1), l2, l3] [] I1 Lg R (GM gc) := by
  intro m
  induction m with
  | zero =>
    intro k x1 l2 l3 I1 hm hx hf hR
    have hev1 : I1 72 0 0 = zI L.length := by rw [hf _ _ rfl]; exact hev
    refine am_goN vX12_score 60 ?_
    refine And.intro (fun c => ?_) (fun c => ?_)
    · rw [show k = L.length by omega] at hR
      have := h I1 hf (hR.mp hev1)
      rw [← hev1] at this
      exact this
    · rw [hev1, hx, zI_toInt (by omega) (by omega), zI_toInt (by omega) (by omega)] at c
      omega
  | succ m ih =>
    intro k x1 l2 l3 I1 hm hx hf hR
    have hev1 : I1 72 0 0 = zI L.length := by rw [hf _ _ rfl]; exact hev
    have hkt : x1.toInt = k := by rw [hx, zI_toInt (by omega) (by omega)]
    have hkn : x1.toInt.toNat = k := by rw [hkt]; omega
    have hk : k < L.length := by omega
    have hke : L[k]? = some L[k] := List.getElem?_eq_getElem hk
    generalize L[k] = e at hke
    obtain ⟨q1, q2, q3, q4, q5⟩ := hL k e hke
    have hrk : rkN L L.length k < L.length := rk_lt hk
    refine am_J.er [true, true, false, false] ?_
    refine am_goN vX12_score 60 ?_
    refine And.intro (fun c => ?_) (fun c => ?_)
    · rw [hev1, hkt, zI_toInt (by omega) (by omega)] at c
      omega
    refine fun x2 ex2 x3 ex3 => ?_
    refine mrk_in (L := L) hl hev1 (fun j a ha => ?_) hx hk (fun y2 y3 hy2 => ?_) L.length 0 x2 x3 (by omega) ex3 ex2
    · obtain ⟨w1, -, -, w4, w5⟩ := hL j a ha
      exact ⟨by rw [hf _ _ rfl]; exact w1, w4, w5⟩
    have hy2t : y2.toInt = rkN L L.length k := by rw [hy2, zI_toInt (by omega) (by omega)]
    have hy2n : y2.toInt.toNat = rkN L L.length k := by rw [hy2t]; omega
    refine am_goN vX12_score 60 ?_
    refine And.intro ⟨by omega, by omega⟩ ?_
    refine And.intro ⟨by omega, by omega⟩ ?_
    rw [hkn, hy2n]
    refine fun z1 ez1 I2 e2 => ?_
    refine And.intro ⟨by omega, by omega⟩ ?_
    refine And.intro ⟨by omega, by omega⟩ ?_
    rw [hkn, hy2n]
    refine fun z2 ez2 I3 e3 => ?_
    refine And.intro ⟨by omega, by omega⟩ ?_
    refine And.intro ⟨by omega, by omega⟩ ?_
    rw [hkn, hy2n]
    refine fun z3 ez3 I4 e4 => ?_
    refine fun y ey => ?_
    have f4 : FrI (V0 mso) I1 I4 := by rw [e4, e3, e2]; exact ((FrI.rf.up rfl).up rfl).up rfl
    have r1 : ∀ j, I4 154 0 j = if j = rkN L L.length k then zI e.1 else I1 154 0 j := fun j => by
      rw [e4, up3_v _ (by decide), e3, up3_v _ (by decide), e2, up3_a, ez1, hf _ _ rfl, q1]; simp
    have r2 : ∀ j, I4 155 0 j = if j = rkN L L.length k then zI e.2.1 else I1 155 0 j := fun j => by
      rw [e4, up3_v _ (by decide), e3, up3_a, ez2, e2, up3_v _ (by decide), up3_v _ (by decide), hf _ _ rfl, q2]; simp
    have r3 : ∀ j, I4 156 0 j = if j = rkN L L.length k then zI e.2.2 else I1 156 0 j := fun j => by
      rw [e4, up3_a, ez3, e3, up3_v _ (by decide), up3_v _ (by decide), e2, up3_v _ (by decide), up3_v _ (by decide), hf _ _ rfl, q3]; simp
    refine ih (k + 1) y _ _ I4 (by omega) (by rw [ey, hx, zI_add]; congr 1) (hf.tr f4) (fun j a hj ha => ?_)
    rw [r1, r2, r3]
    by_cases e9 : j = k
    · subst e9
      rw [hke] at ha
      cases ha
      rw [if_pos rfl, if_pos rfl, if_pos rfl]
      exact ⟨rfl, rfl, rfl⟩
    · have hne : rkN L L.length j ≠ rkN L L.length k := fun z => e9 (rk_inj (by omega) hk z)
      rw [if_neg hne, if_neg hne, if_neg hne]
      exact hR j a (by omega) ha
abbrev msf : List Nat := 47 :: 48 :: 61 :: mpv
abbrev msy : List Nat := 72 :: 73 :: 154 :: 155 :: 156 :: msf
theorem mscore_loop {Γ : AMG} {Q : QQ} {d : Nat} {I : II} {R : RR} {gc : Nat → Nat} {sz : Nat} {bs : Nat → Int} {l : List MC} (hb : BSsok sz bs) (hl : MCsok l) (hfa : I 66 0 0 = zI 0)
    (hF : ∀ e : FLT, scoreA sz bs l = .inr e → ∀ (I' : II) (Lg' : LJ), FrI (V0 mpv) I I' → I' 66 0 0 = zI e.1 → Q (some (vI (zI (-1 - e.2)))) I' Lg' R (GM gc))
    (hS : ∀ L : LST, scoreA sz bs l = .inl L → LSv l 4000 L → L.length ≤ 24 → ∀ (I' : II) (Lg' : LJ), FrI (V0 (72 :: 73 :: 154 :: 155 :: 156 :: mpy)) I I' → I' 66 0 0 = zI 0 → I' 73 0 0 = zI 0 → MPAt I' (srt L) → Q (some (vI (zI L.length))) I' Lg' R (GM gc)) :
    ∀ (f : Nat) (P : PP) (I1 : II) (Lg1 : LJ), 641 ≤ P.1 + f → P.1 ≤ sz → parseA sz bs l f P = parseA sz bs l 641 PP0 → PPok l P → FrI (V0 mpy) I I1 → MTx I1 sz bs l → MTk I1 Lg1 sz bs (tokA sz bs P.1) → MPs I1 Lg1 P →
      am_J Γ mX12_score Q (d + 5) 0 0 57 [some (vR 12 0), none, none, none] [] I1 Lg1 R (GM gc) := by
  have hsz := hb.1
  intro f
  induction f with
  | zero =>
    intro P I1 Lg1 h1 h2
    omega
  | succ f ih =>
    intro P I1 Lg1 h1 h2 hpr hok hf hx hm hP
    have ht : TOK sz bs (tokA sz bs P.1) := ⟨P.1, h2, rfl⟩
    have hin := inS_le (P := P)
    have htk := ht.ok hb
    obtain ⟨-, -, -, -, -, -, hprog, hst0, -⟩ := tok_ok hb h2
    unfold parseA at hpr
    generalize tokA sz bs P.1 = t at *
    -- a fault that has been kept
    have flt : ∀ (e : FLT) (I2 : II) (Lg2 : LJ), scoreA sz bs l = .inr e → FrI (V0 mpv) I I2 → MFlt I2 e → Q (some (vI (zI (-1) - I2 67 0 0))) I2 Lg2 R (GM gc) := by
      intro e I2 Lg2 hsc f2 m2
      rw [m2.2, zI_sub]
      exact hF e hsc I2 Lg2 f2 m2.1
    have k64 : ¬ (t.1 = 0 ∧ sz ≤ 600) → am_J Γ mX12_score Q (d + 5) 0 0 64 [some (vR 12 0), none, none, none] [] I1 Lg1 R (GM gc) := by
      intro hne
      refine am_goN vX12_score 3 ?_
      refine s_mreadPiece hb hl hx ht hm hP hok (fun e he I2 Lg2 f2 m2 => ?_) (fun P' hp' I2 Lg2 f2 t2 p2 m2 => ?_)
      · refine And.intro (fun c => ?_) (fun _ => ?_)
        · rw [zI_toInt (by omega) (by omega)] at c
          omega
        refine am_goN vX12_score 10 ?_
        refine flt e I2 Lg2 ?_ (hf.trm f2) m2
        by_cases hz : t.1 = 0 ∧ P.2.2.2.2.2 = [] ∧ P.2.2.1 = none
        · rw [if_pos hz] at hpr
          have h6 : 600 < sz := by omega
          have e1 := scoreA_6 hpr.symm h6
          rw [pieceA_end (by omega)] at he
          have he := Sum.inr.inj he
          rw [e1, ← he]
          have hs : t.st = 600 := by
            have := hst0 hz.1
            show t.2.1 = 600
            omega
          rw [hs]
        · rw [if_neg hz, he] at hpr
          exact scoreA_f hpr.symm
      · obtain ⟨g1, g2, g3, g4⟩ := pieceA_ok hb hl ht hok hp'
        have hz : ¬ (t.1 = 0 ∧ P.2.2.2.2.2 = [] ∧ P.2.2.1 = none) := fun z => by omega
        rw [if_neg hz, hp'] at hpr
        have hpg : P.1 < t.en := hprog (by omega) (by omega)
        have x2 : MTx I2 sz bs l := hx.fr f2 (V0_out (by decide))
        refine And.intro (fun _ => ?_) (fun c => ?_)
        · refine am_goN vX12_score 5 ?_
          refine s_go hb x2.1 x2.2.1 t2 p2 (fun I3 Lg3 f3 w3 m3 => ?_)
          have f13 : FrI (V0 mpy) I1 I3 := f2.tr (mgv_mpv f3)
          exact ih P' I3 Lg3 (by omega) p2 hpr g1 (hf.tr f13) (x2.fr f3 (V0_out (by decide))) m3 (m2.fr f3 (V0_out (by decide)) w3)
        · rw [zI_toInt (by omega) (by omega)] at c
          omega
    by_cases hz : t.1 = 0 ∧ sz ≤ 600
    · have hk0 : I1 64 0 0 = zI 0 := by rw [hm.2.1 hz.1, if_pos hz.2]
      refine am_goN vX12_score 3 ?_
      refine And.intro (fun _ => ?_) (fun c => ?_)
      · have hit : (I1 71 0 0).toInt = inS P := by rw [hP.2.1, zI_toInt (by omega) (by omega)]
        have hdt : (I1 70 0 0).toInt = P.2.2.2.2.2.length := by have := hok.2.2.1; rw [hP.2.2.1, zI_toInt (by omega) (by omega)]
        have hst : t.2.1 = sz := by rw [hst0 hz.1]; omega
        have k99 : ¬ (P.2.2.2.2.2 = [] ∧ P.2.2.1 = none) → am_J Γ mX12_score Q (d + 5) 0 0 99 [some (vR 12 0), none, none, none] [] I1 Lg1 R (GM gc) := by
          intro hne
          rw [if_neg (fun z => hne z.2), pieceA_end (by omega)] at hpr
          refine am_goN vX12_score 20 ?_
          refine s_bad hm rfl (Or.inl rfl) (fun I2 f2 m2 => ?_)
          exact flt _ I2 Lg1 (scoreA_f hpr.symm) (hf.trm (mbv_mpv f2)) m2
        refine am_goN vX12_score 3 ?_
        refine And.intro (fun c => ?_) (fun c => ?_)
        · rw [hit] at c
          refine k99 (fun z => c ?_)
          unfold inS
          rw [z.2]
          rfl
        rw [hit] at c
        have hcur : P.2.2.1 = none := by
          cases hh : P.2.2.1 with
          | none => rfl
          | some w => unfold inS at c; rw [hh] at c; exact absurd (show (1 : Int) = 0 from c) (by decide)
        refine am_goN vX12_score 3 ?_
        refine And.intro (fun c2 => ?_) (fun c2 => ?_)
        · rw [hdt] at c2
          have hfr : P.2.2.2.2.2 = [] := List.length_eq_zero_iff.mp (by omega)
          rw [if_pos ⟨hz.1, hfr, hcur⟩] at hpr
          have hi0 : inS P = 0 := by unfold inS; rw [hcur]
          have hbase := hP.2.2.2.2.1
          rw [hi0] at hbase
          obtain ⟨S, ⟨c1, c2', c3, c4⟩, rS⟩ := hbase
          refine am_goN vX12_score 5 ?_
          refine And.intro ⟨by show (0 : Int) ≤ (zI 0).toInt; rw [zI_toInt (by omega) (by omega)]; omega, by show (zI 0).toInt < _; rw [zI_toInt (by omega) (by omega)]; omega⟩ ?_
          have hz0 : (zI 0).toInt.toNat = 0 := by rw [zI_toInt (by omega) (by omega)]; rfl
          rw [hz0, c3]
          rcases rS with ⟨r1, r2⟩ | ⟨r1, r2, r3⟩
          · rw [r1]
            refine And.intro (fun c9 => ?_) (fun _ => ?_)
            · exact absurd c9 (by show ¬ (zI 1).toInt = 0; rw [zI_toInt (by omega) (by omega)]; omega)
            refine am_goN vX12_score 10 ?_
            refine fun y ey I2 e2 => ?_
            have hsc := scoreA_4 hpr.symm (by omega) r2
            have f2 : FrI (V0 mpv) I1 I2 := by rw [e2]; exact FrI.rf.up rfl
            have hsz2 : I2 61 0 0 = zI sz := by rw [f2 _ _ rfl]; exact hx.2.1
            have hh : Q (some (vI (zI (-1 - (sz : Int))))) I2 Lg1 R (GM gc) := hF _ hsc I2 Lg1 (hf.trm f2) (by rw [e2, up3_s, ey])
            rw [← zI_sub, ← hsz2] at hh
            exact hh
          · rw [r1]
            refine And.intro (fun _ => ?_) (fun c9 => ?_)
            · have hsc := scoreA_y hpr.symm (by omega) r2
              rw [r3] at c1 c2' c4
              have h7 : LSv l (154000 * ((P.2.1.length : Int) + 1)) P.2.2.2.2.1 := hok.2.2.2.2.2.2.1
              generalize P.2.2.2.2.1 = L at *
              have hz1 : (zI 0).toInt.toNat = 0 := hz0
              refine am_goN vX12_score 60 ?_
              refine And.intro ⟨by show (0 : Int) ≤ (zI 0).toInt; rw [zI_toInt (by omega) (by omega)]; omega, by show (zI 0).toInt < _; rw [zI_toInt (by omega) (by omega)]; omega⟩ ?_
              rw [hz0, c1]
              refine fun y1 ey1 I2 e2 => ?_
              refine And.intro (Or.inl rfl) ?_
              refine fun y2 ey2 I3 e3 x1 ex1 => ?_
              have f3 : FrI (V0 [72, 73]) I1 I3 := by rw [e3, e2]; exact (FrI.rf.up rfl).up rfl
              have hev : I3 72 0 0 = zI L.length := by rw [e3, up3_v _ (by decide), e2, up3_s, ey1]
              have hmd : I3 73 0 0 = zI 0 := by rw [e3, up3_s, ey2]
              have hLv : LSv l 4000 L := by
                intro e he
                obtain ⟨a1, a2, a3⟩ := h7 e he
                refine ⟨a1, ?_, a3⟩
                exact Decidable.byContradiction (fun q => r2 (Or.inr ⟨e, he, by omega⟩))
              refine mrk_out (L := L) c2' hev (fun k e he => ?_) (fun I4 f4 m4 => ?_) L.length 0 x1 _ _ I3 (by omega) ex1 FrI.rf (fun k e hk => absurd hk (by omega))
              · obtain ⟨q1, q2, q3, q4, q5⟩ := c4 k e he
                rw [Nat.mul_zero, Nat.zero_add] at q1 q2 q3
                exact ⟨by rw [f3 _ _ rfl]; exact q1, by rw [f3 _ _ rfl]; exact q2, by rw [f3 _ _ rfl]; exact q3, q4, q5⟩
              · refine hS L hsc hLv c2' I4 Lg1 ?_ (by rw [f4 _ _ rfl, f3 _ _ rfl, hf _ _ rfl]; exact hfa) (by rw [f4 _ _ rfl]; exact hmd) m4
                exact (hf.mono (fun v i h => V0_sub (by decide) h)).tr ((f3.mono (fun v i h => V0_sub (by decide) h)).tr (f4.mono (fun v i h => V0_sub (by decide) h)))
            · exact absurd (show (zI 0).toInt = 0 by rw [zI_toInt (by omega) (by omega)]) c9
        · rw [hdt] at c2
          refine am_J.er [true, false, false, false] (k99 (fun z => ?_))
          rw [z.1] at c2
          exact absurd c2 (by simp)
      · rw [hk0] at c
        exact absurd (zI_toInt (a := 0) (by omega) (by omega)) c
    · refine am_goN vX12_score 3 ?_
      refine And.intro (fun c => ?_) (fun _ => ?_)
      · exfalso
        have h4 := htk.2.2.1
        have hc : t.1 = 0 ∨ t.1 = 1 ∨ t.1 = 2 ∨ t.1 = 3 ∨ t.1 = 4 := by omega
        obtain ⟨-, m0, m4, m3, m2, m1⟩ := hm
        rcases hc with q | q | q | q | q
        · rw [m0 q, if_neg (by omega), zI_toInt (by omega) (by omega)] at c
          omega
        · rw [(m1 q).1, zI_toInt (by omega) (by omega)] at c
          omega
        · rw [(m2 q).1, zI_toInt (by omega) (by omega)] at c
          omega
        · rw [(m3 q).1, zI_toInt (by omega) (by omega)] at c
          omega
        · rw [m4 q, zI_toInt (by omega) (by omega)] at c
          omega
      · exact k64 hz
set_option maxRecDepth 100000 in
theorem s_mscore {Γ : AMG} {Q : QQ} {d : Nat} {I : II} {Lg : LJ} {R : RR} {gc : Nat → Nat} {sz : Nat} {bs : Nat → Int} {l : List MC} (hb : BSsok sz bs) (ht : MTapeAt I sz bs) (hl : MCsok l) (hm : MMAt I l)
    (hF : ∀ e : FLT, scoreA sz bs l = .inr e → ∀ (I' : II) (Lg' : LJ), FrI (V0 msf) I I' → I' 47 0 0 = zI 0 → I' 48 0 0 = zI 0 → I' 66 0 0 = zI e.1 → Q (some (vI (zI (-1 - e.2)))) I' Lg' R (GM gc))
    (hS : ∀ L : LST, scoreA sz bs l = .inl L → LSv l 4000 L → L.length ≤ 24 → ∀ (I' : II) (Lg' : LJ), FrI (V0 msy) I I' → I' 47 0 0 = zI 0 → I' 48 0 0 = zI 0 → I' 66 0 0 = zI 0 → I' 73 0 0 = zI 0 → MPAt I' (srt L) → Q (some (vI (zI L.length))) I' Lg' R (GM gc)) :
    am_Sp Γ (d + 5) 0 0 mX12_score [vR 12 0] I Lg R (GM gc) Q := by
  have hsz := hb.1
  refine am_runN vX12_score 60 _ rfl rfl rfl rfl ?_
  refine fun y1 ey1 I1 e1 y2 ey2 I2 e2 y3 ey3 I3 e3 y4 ey4 I4 e4 y5 ey5 I5 e5 y6 ey6 I6 e6 y7 ey7 I7 e7 => ?_
  refine And.intro (Or.inl rfl) ?_
  refine fun y8 ey8 I8 e8 => ?_
  have f8 : FrI (V0 msf) I I8 := by
    rw [e8, e7, e6, e5, e4, e3, e2, e1]
    exact (((((((FrI.rf.up rfl).up rfl).up rfl).up rfl).up rfl).up rfl).up rfl).up rfl
  refine s_mclear (i := 0) rfl (by omega) (fun I9 f9 r9 => ?_)
  refine fun y10 ey10 I10 e10 => ?_
  have f10 : FrI (V0 [62]) I9 I10 := by rw [e10]; exact FrI.rf.up rfl
  have f810 : FrI (V0 msf) I8 I10 := (f9.1.mono (fun v i h => V0_sub (by decide) h)).tr (f10.mono (fun v i h => V0_sub (by decide) h))
  have hall : FrI (V0 msf) I I10 := f8.tr f810
  have g1 : I10 47 0 0 = zI 0 := by rw [f10 _ _ rfl, f9.1 _ _ rfl, e8, up3_v _ (by decide), e7, up3_v _ (by decide), e6, up3_v _ (by decide), e5, up3_v _ (by decide), e4, up3_v _ (by decide), e3, up3_v _ (by decide), e2, up3_v _ (by decide), e1, up3_s, ey1]
  have g2 : I10 61 0 0 = zI sz := by rw [f10 _ _ rfl, f9.1 _ _ rfl, e8, up3_v _ (by decide), e7, up3_v _ (by decide), e6, up3_v _ (by decide), e5, up3_v _ (by decide), e4, up3_v _ (by decide), e3, up3_v _ (by decide), e2, up3_s, ey2, e1, up3_v _ (by decide)]; exact ht.1
  have g3 : I10 48 0 0 = zI 0 := by rw [f10 _ _ rfl, f9.1 _ _ rfl, e8, up3_v _ (by decide), e7, up3_v _ (by decide), e6, up3_v _ (by decide), e5, up3_v _ (by decide), e4, up3_v _ (by decide), e3, up3_s, ey3]
  have g4 : I10 66 0 0 = zI 0 := by rw [f10 _ _ rfl, f9.1 _ _ rfl, e8, up3_v _ (by decide), e7, up3_v _ (by decide), e6, up3_v _ (by decide), e5, up3_v _ (by decide), e4, up3_s, ey4]
  have g5 : I10 68 0 0 = zI 0 := by rw [f10 _ _ rfl, f9.1 _ _ rfl, e8, up3_v _ (by decide), e7, up3_v _ (by decide), e6, up3_v _ (by decide), e5, up3_s, ey5]
  have g6 : I10 69 0 0 = zI 0 := by rw [f10 _ _ rfl, f9.1 _ _ rfl, e8, up3_v _ (by decide), e7, up3_v _ (by decide), e6, up3_s, ey6]
  have g7 : I10 70 0 0 = zI 0 := by rw [f10 _ _ rfl, f9.1 _ _ rfl, e8, up3_v _ (by decide), e7, up3_s, ey7]
  have g8 : I10 71 0 0 = zI 0 := by rw [f10 _ _ rfl, f9.1 _ _ rfl, e8, up3_s, ey8]
  have tx : MTx I10 sz bs l := ⟨fun k hk => by rw [hall _ _ rfl]; exact ht.2 k hk, g2, hm.fr hall (V0_out (by decide))⟩
  refine s_go hb tx.1 tx.2.1 (p := 0) (by rw [e10, up3_s, ey10]; rfl) (by omega) (fun I11 Lg11 f11 w11 m11 => ?_)
  have f11' : FrI (V0 mpy) I10 I11 := mgv_mpv f11
  refine mscore_loop (I := I10) hb hl g4 (fun e he I' Lg' f' ft' => ?_) (fun L hL hv hl24 I' Lg' f' ft' md' mp' => ?_) 641 PP0 I11 Lg11 (by show 641 ≤ 0 + 641; omega) (by show 0 ≤ sz; omega) rfl PP0_ok f11' (tx.fr f11 (V0_out (by decide))) m11 (MPs.fr (I := I10) (Lg := Lg) ?_ f11 (V0_out (by decide)) w11)
  · exact hF e he I' Lg' (hall.tr (f'.mono (fun v i h => V0_sub (by decide) h))) (by rw [f' _ _ rfl]; exact g1) (by rw [f' _ _ rfl]; exact g3) ft'
  · exact hS L hL hv hl24 I' Lg' ((hall.mono (fun v i h => V0_sub (by decide) h)).tr (f'.mono (fun v i h => V0_sub (by decide) h))) (by rw [f' _ _ rfl]; exact g1) (by rw [f' _ _ rfl]; exact g3) ft' md' mp'
  · refine ⟨g6, g8, g7, g5, r9.fr f10 (V0_out (by decide)), (fun z => by cases z), trivial, (fun j s hj => ?_), (fun w hw => ?_)⟩
    · simp [PP0] at hj
    · cases hw
