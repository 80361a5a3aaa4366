/-! The class's night: bumps. -/
def PRg (rn : Nat → RUN) (a : NB × NB) : Prop := a.2.1 = a.1.1 ∧ 0 ≤ a.1.1 ∧ a.1.1 < 4 ∧ (0 ≤ a.1.2.1 ∧ a.1.2.1 ≤ 255) ∧ (0 ≤ a.2.2.1 ∧ a.2.2.1 ≤ 255) ∧ (0 ≤ a.1.2.2.1 ∧ a.1.2.2.1 ≤ 12000) ∧ (0 ≤ a.2.2.2.1 ∧ a.2.2.2.1 ≤ 12000) ∧ (0 ≤ a.2.2.2.2 ∧ a.2.2.2.2 ≤ 1023) ∧ (a.1.2.1 = 255 → a.2.2.1 = 255)
theorem prN_rg {rn : Nat → RUN} {gs : Nat → Int32} (hrn : RNSok rn) {b : NB} (h : NBok rn b) : PRg rn (b, stpB rn gs b) := by
  have h2 := (stp_ok (gs := gs) hrn h).1
  have p1 := h.pl hrn
  have p2 := h2.pl hrn
  obtain ⟨g1, g2, g3, g4, g5, g6, g7, g8⟩ := id h
  obtain ⟨k1, k2, k3, k4, k5, k6, k7, k8⟩ := id h2
  refine ⟨stpB_run, g1, g2, p1, p2, ⟨g4, g5⟩, ⟨k4, k5⟩, ⟨k6, k7⟩, fun q => ?_⟩
  dsimp only at q ⊢
  unfold stpB
  rw [if_pos q]
  exact q
/-- the balls behind a tick -/
def CPrs (I : II) (P : List (NB × NB)) : Prop := ∀ (j : Nat) (a : NB × NB), P[j]? = some a → CBall I j a.2 ∧ CAhd I j a.1 a.2
theorem CPrs.fr {I I' : II} {P : List (NB × NB)} {Fr : Nat → Nat → Bool} (h : CPrs I P) (hf : FrI Fr I I') (hq : ∀ v ∈ blv, ∀ i, Fr v i = false) : CPrs I' P := by
  intro j a ha
  obtain ⟨⟨h1, h2, h3, h4⟩, h5⟩ := h j a ha
  refine ⟨⟨?_, ?_, ?_, ?_⟩, fun q => ?_⟩
  · rw [hf _ _ (hq _ (by decide) _)]; exact h1
  · rw [hf _ _ (hq _ (by decide) _)]; exact h2
  · rw [hf _ _ (hq _ (by decide) _)]; exact h3
  · rw [hf _ _ (hq _ (by decide) _)]; exact h4
  · rw [hf _ _ (hq _ (by decide) _), hf _ _ (hq _ (by decide) _)]; exact h5 q
theorem alike_loop {Γ : AMG} {Q : QQ} {d : Nat} {I : II} {Lg : LJ} {R : RR} {gc : Nat → Nat} {P : List (NB × NB)} {rn : Nat → RUN} (hl : P.length ≤ 24) (hlg : I 27 0 0 = zI P.length) (hP : CPrs I P) (hr : ∀ a ∈ P, PRg rn a)
    (hy : ∀ s : Int, (∀ (j : Nat) (a : NB × NB), P[j]? = some a → a.2.2.1 ≠ 255 → a.2.2.2.2 = s) → Q (some (vI (zI 1))) I Lg R (GM gc)) (hn : Q (some (vI (zI 0))) I Lg R (GM gc)) :
    ∀ (m n : Nat) (x1 x2 x3 : Int32) (l4 : Option AV) (lo hi : Int), n + m = P.length → x3 = zI n → x1 = zI lo → x2 = zI hi → 0 ≤ lo → lo ≤ 1023 → 0 ≤ hi → hi ≤ 1023 → (∀ (j : Nat) (a : NB × NB), j < n → P[j]? = some a → a.2.2.1 ≠ 255 → lo ≤ a.2.2.2.2 ∧ a.2.2.2.2 ≤ hi) →
      am_J Γ mX6_allAreAlike Q (d + 1) 0 0 8 [some (vR 6 0), some (vI x1), some (vI x2), some (vI x3), l4] [] I Lg R (GM gc) := by
  have hlt : (I 27 0 0).toInt = P.length := by rw [hlg, zI_toInt (by omega) (by omega)]
  intro m
  induction m with
  | zero =>
    intro n x1 x2 x3 l4 lo hi hm hx e1 e2 b1 b2 b3 b4 hh
    refine am_goN vX6_allAreAlike 60 ?_
    refine And.intro (fun c => ?_) (fun c => ?_)
    · refine And.intro (fun c2 => ?_) (fun c2 => ?_)
      · exact ⟨Or.inl rfl, hn⟩
      · rw [e1, e2, zI_toInt (by omega) (by omega), zI_toInt (by omega) (by omega)] at c2
        refine ⟨Or.inr rfl, hy lo (fun j a ha hp => ?_)⟩
        have hj := (List.getElem?_eq_some_iff.mp ha).1
        have := hh j a (by omega) ha hp
        omega
    · rw [hlt, hx, zI_toInt (by omega) (by omega)] at c
      omega
  | succ m ih =>
    intro n x1 x2 x3 l4 lo hi hm hx e1 e2 b1 b2 b3 b4 hh
    have hn' : n < P.length := by omega
    have he : P[n]? = some P[n] := List.getElem?_eq_getElem hn'
    have hrg := hr P[n] (List.getElem_mem hn')
    generalize P[n] = a at he hrg
    obtain ⟨⟨c1, c2, c3, c4⟩, c5⟩ := hP n a he
    obtain ⟨r1, r2, r3, r4, r5, r6, r7, r8, r9⟩ := hrg
    have hxt : x3.toInt = n := by rw [hx, zI_toInt (by omega) (by omega)]
    have hxn : x3.toInt.toNat = n := by rw [hxt]; omega
    have hpt : (I 1 (2 + n) 0).toInt = a.2.2.1 := by rw [c2, zI_toInt (by omega) (by omega)]
    refine am_J.er [true, true, true, true, false] ?_
    refine am_goN vX6_allAreAlike 60 ?_
    refine And.intro (fun c => ?_) (fun c => ?_)
    · rw [hlt, hxt] at c
      omega
    refine And.intro (fun c => ?_) (fun c => ?_)
    · rw [hxt, zI_toInt (by omega) (by omega)] at c
      omega
    refine And.intro ⟨by omega, by omega⟩ ?_
    rw [hxn]
    refine And.intro (fun c => ?_) (fun c => ?_)
    · rw [hpt, zI_toInt (by omega) (by omega)] at c
      refine fun y ey => ?_
      refine ih (n + 1) x1 x2 y _ lo hi (by omega) (by rw [ey, hx, zI_add]; congr 1) e1 e2 b1 b2 b3 b4 (fun j b hj hb hp => ?_)
      by_cases hjn : j = n
      · subst hjn
        rw [he] at hb
        cases hb
        exact absurd c hp
      · exact hh j b (by omega) hb hp
    · rw [hpt, zI_toInt (by omega) (by omega)] at c
      refine fun y1 ey1 y2 ey2 y ey => ?_
      refine ih (n + 1) y1 y2 y _ (min lo a.2.2.2.2) (max hi a.2.2.2.2) (by omega) (by rw [ey, hx, zI_add]; congr 1) ?_ ?_ (by omega) (by omega) (by omega) (by omega) (fun j b hj hb hp => ?_)
      · rw [ey1, e1, c4, am_min_z (by omega) (by omega) (by omega) (by omega)]
      · rw [ey2, e2, c4, am_max_z (by omega) (by omega) (by omega) (by omega)]
      · by_cases hjn : j = n
        · subst hjn
          rw [he] at hb
          cases hb
          omega
        · have := hh j b (by omega) hb hp
          omega
set_option maxRecDepth 100000 in
theorem s_alike {Γ : AMG} {Q : QQ} {d : Nat} {I : II} {Lg : LJ} {R : RR} {gc : Nat → Nat} {P : List (NB × NB)} {rn : Nat → RUN} (hl : P.length ≤ 24) (hlg : I 27 0 0 = zI P.length) (hP : CPrs I P) (hr : ∀ a ∈ P, PRg rn a)
    (hy : ∀ s : Int, (∀ (j : Nat) (a : NB × NB), P[j]? = some a → a.2.2.1 ≠ 255 → a.2.2.2.2 = s) → Q (some (vI (zI 1))) I Lg R (GM gc)) (hn : Q (some (vI (zI 0))) I Lg R (GM gc)) : am_Sp Γ (d + 1) 0 0 mX6_allAreAlike [vR 6 0] I Lg R (GM gc) Q := by
  refine am_run vX6_allAreAlike 60 _ rfl rfl rfl rfl ?_
  exact alike_loop hl hlg hP hr hy hn P.length 0 _ _ _ _ 1023 0 (by omega) rfl rfl rfl (by omega) (by omega) (by omega) (by omega) (fun j a hj => absurd hj (by omega))
abbrev bmv : List Nat := [24, 25, 26, 109, 110, 111, 29]
theorem bump_in {Γ : AMG} {Q : QQ} {d i : Nat} {x1 : Int32} {I : II} {Lg : LJ} {R : RR} {gc : Nat → Nat} {P : List (NB × NB)} {rn : Nat → RUN} {tk : Int} {a : NB × NB} (hl : P.length ≤ 24) (hlg : I 27 0 0 = zI P.length) (hnow : I 30 0 0 = zI tk) (hP : CPrs I P) (hr : ∀ a ∈ P, PRg rn a) (hx1 : x1 = zI i) (ha : P[i]? = some a) :
    ∀ (m n : Nat) (x2 : Int32) (l3 l4 : Option AV) (S : NST) (I1 : II), n + m = P.length → x2 = zI n → FrI (V0 bmv) I I1 → CNAt I1 S →
      (∀ (I' : II) (x2 : Int32) (l3 l4 : Option AV), FrI (V0 bmv) I I' → CNAt I' (bmpI tk a (P.drop n) S) → am_J Γ mX6_bumpAll Q (d + 2) 0 0 137 [some (vR 6 0), some (vI x1), some (vI x2), l3, l4] [] I' Lg R (GM gc)) →
      am_J Γ mX6_bumpAll Q (d + 2) 0 0 28 [some (vR 6 0), some (vI x1), some (vI x2), l3, l4] [] I1 Lg R (GM gc) := by
  have hi := (List.getElem?_eq_some_iff.mp ha).1
  have hra : PRg rn a := hr a (List.mem_of_getElem? ha)
  intro m
  induction m with
  | zero =>
    intro n x2 l3 l4 S I1 hm hx hf hS h
    have hlt : (I1 27 0 0).toInt = P.length := by rw [hf _ _ rfl, hlg, zI_toInt (by omega) (by omega)]
    rw [List.drop_of_length_le (by omega)] at h
    refine am_goN vX6_bumpAll 4 ?_
    refine And.intro (fun c => ?_) (fun c => ?_)
    · exact h I1 x2 l3 l4 hf hS
    · rw [hlt, hx, zI_toInt (by omega) (by omega)] at c
      omega
  | succ m ih =>
    intro n x2 l3 l4 S I1 hm hx hf hS h
    have hlt : (I1 27 0 0).toInt = P.length := by rw [hf _ _ rfl, hlg, zI_toInt (by omega) (by omega)]
    have hn : n < P.length := by omega
    have he : P[n]? = some P[n] := List.getElem?_eq_getElem hn
    have hdr : P.drop n = P[n] :: P.drop (n + 1) := List.drop_eq_getElem_cons hn
    rw [hdr] at h
    have hrb := hr P[n] (List.getElem_mem hn)
    generalize P[n] = b at he hdr h hrb
    unfold bmpI at h
    have hP1 : CPrs I1 P := hP.fr hf (V0_outI (by decide))
    obtain ⟨⟨a1, a2, a3, a4⟩, a5⟩ := hP1 i a ha
    obtain ⟨⟨b1, b2, b3, b4⟩, b5⟩ := hP1 n b he
    obtain ⟨r1, r2, r3, r4, r5, r6, r7, r8, r9⟩ := id hra
    obtain ⟨q1, q2, q3, q4, q5, q6, q7, q8, q9⟩ := id hrb
    have hxt : x2.toInt = n := by rw [hx, zI_toInt (by omega) (by omega)]
    have hxn : x2.toInt.toNat = n := by rw [hxt]; omega
    have hyt : x1.toInt = i := by rw [hx1, zI_toInt (by omega) (by omega)]
    have hyn : x1.toInt.toNat = i := by rw [hyt]; omega
    have ta1 : (I1 0 (2 + i) 0).toInt = a.1.1 := by rw [a1, zI_toInt (by omega) (by omega)]; exact r1
    have tb1 : (I1 0 (2 + n) 0).toInt = b.1.1 := by rw [b1, zI_toInt (by omega) (by omega)]; exact q1
    have ta2 : (I1 1 (2 + i) 0).toInt = a.2.2.1 := by rw [a2, zI_toInt (by omega) (by omega)]
    have tb2 : (I1 1 (2 + n) 0).toInt = b.2.2.1 := by rw [b2, zI_toInt (by omega) (by omega)]
    have ta3 : (I1 2 (2 + i) 0).toInt = a.2.2.2.1 := by rw [a3, zI_toInt (by omega) (by omega)]
    have tb3 : (I1 2 (2 + n) 0).toInt = b.2.2.2.1 := by rw [b3, zI_toInt (by omega) (by omega)]
    have ta5 : a.2.2.1 ≠ 255 → (I1 4 (2 + i) 0).toInt = a.1.2.1 ∧ (I1 5 (2 + i) 0).toInt = a.1.2.2.1 := fun q => ⟨by rw [(a5 q).1, zI_toInt (by omega) (by omega)], by rw [(a5 q).2, zI_toInt (by omega) (by omega)]⟩
    have tb5 : b.2.2.1 ≠ 255 → (I1 4 (2 + n) 0).toInt = b.1.2.1 ∧ (I1 5 (2 + n) 0).toInt = b.1.2.2.1 := fun q => ⟨by rw [(b5 q).1, zI_toInt (by omega) (by omega)], by rw [(b5 q).2, zI_toInt (by omega) (by omega)]⟩
    have k131 : ∀ (I2 : II) (l3 l4 : Option AV), FrI (V0 bmv) I I2 → CNAt I2 (bmpN tk a b S) → am_J Γ mX6_bumpAll Q (d + 2) 0 0 131 [some (vR 6 0), some (vI x1), some (vI x2), l3, l4] [] I2 Lg R (GM gc) := by
      intro I2 l3 l4 f2 s2
      refine am_goN vX6_bumpAll 2 ?_
      refine fun y ey => ?_
      exact ih (n + 1) y l3 l4 (bmpN tk a b S) I2 (by omega) (by rw [ey, hx, zI_add]; congr 1) f2 s2 h
    have kno : bmpC a b = false → ∀ (l3 l4 : Option AV), am_J Γ mX6_bumpAll Q (d + 2) 0 0 131 [some (vR 6 0), some (vI x1), some (vI x2), l3, l4] [] I1 Lg R (GM gc) := by
      intro q l3 l4
      refine k131 I1 l3 l4 hf ?_
      unfold bmpN
      rw [if_neg (by rw [q]; decide)]
      exact hS
    have kyes : bmpC a b = true → ∀ (l3 l4 : Option AV), am_J Γ mX6_bumpAll Q (d + 2) 0 0 93 [some (vR 6 0), some (vI x1), some (vI x2), some (vR 0 (2 + i)), some (vR 0 (2 + n))] [] I1 Lg R (GM gc) := by
      intro q l3 l4
      refine am_goN vX6_bumpAll (20) ?_
      refine fun y ey I2 e2 => ?_
      have f2 : FrI (V0 [29]) I1 I2 := by rw [e2]; exact FrI.rf.up rfl
      have S2 := hS.bump e2 ey
      have ea4 : I2 3 (2 + i) 0 = zI a.2.2.2.2 := by rw [f2 _ _ rfl]; exact a4
      have eb4 : I2 3 (2 + n) 0 = zI b.2.2.2.2 := by rw [f2 _ _ rfl]; exact b4
      have hv0 : 0 ≤ bmpV a b ∧ bmpV a b ≤ 1000 := by unfold bmpV; omega
      refine And.intro (by rw [zI_toInt (by omega) (by omega)]; omega) ?_
      refine s_nhearS (a := tk) (b := 900 + a.1.1) (s := bmpV a b) S2 ?_ ?_ ?_ hv0.1 (by omega) (fun I3 f3 s3 => ?_)
      · rw [f2 _ _ rfl, hf _ _ rfl]; exact hnow
      · rw [f2 _ _ rfl, a1, zI_add, r1]
      · rw [ea4, eb4, zI_sub, am_abs_z (by omega) (by omega), zI_divN (by omega) (by omega) (by omega) (by omega)]
        rfl
      · refine k131 I3 _ _ ((hf.tr (f2.mono (fun v i h => V0_sub (by decide) h))).tr (f3.mono (fun v i h => V0_sub (by decide) h))) ?_
        unfold bmpN
        rw [if_pos q]
        exact s3
    refine am_J.er [true, true, true, false, false] ?_
    refine am_goN vX6_bumpAll (25) ?_
    refine And.intro (fun c => ?_) (fun c => ?_)
    · rw [hlt, hxt] at c
      omega
    refine And.intro (fun c => ?_) (fun c => ?_)
    · rw [hxt, zI_toInt (by omega) (by omega)] at c
      omega
    refine And.intro ⟨by omega, by omega⟩ ?_
    refine And.intro ⟨by omega, by omega⟩ ?_
    rw [hxn, hyn]
    refine s_stayedWith (fun w1 w2 w3 w4 w5 => ?_) (fun w => ?_)
    · rw [ta2] at w1
      rw [ta1, tb1] at w2
      rw [ta2, tb2] at w3
      have := ta5 w1
      have := tb5 (by omega)
      rw [ta2] at w4 w5
      refine And.intro (fun c => ?_) (fun c => ?_)
      · rw [zI_toInt (by omega) (by omega)] at c
        omega
      refine am_goN vX6_bumpAll (4) ?_
      refine s_overtook (fun v1 v2 => ?_) (fun v => ?_)
      · rw [ta3, tb3] at v2
        refine And.intro (fun c => ?_) (fun c => ?_)
        · exact kyes (by unfold bmpC; exact decide_eq_true (by omega)) none none
        · rw [zI_toInt (by omega) (by omega)] at c
          omega
      · rw [ta3, tb3] at v
        refine And.intro (fun c => ?_) (fun c => ?_)
        · rw [zI_toInt (by omega) (by omega)] at c
          omega
        · refine am_goN vX6_bumpAll (4) ?_
          refine s_overtook (fun u1 u2 => ?_) (fun u => ?_)
          · rw [ta3, tb3] at u2
            refine And.intro (fun c => ?_) (fun c => ?_)
            · rw [zI_toInt (by omega) (by omega)] at c
              omega
            · exact kyes (by unfold bmpC; exact decide_eq_true (by omega)) none none
          · rw [ta3, tb3] at u
            refine And.intro (fun c => ?_) (fun c => ?_)
            · exact kno (by unfold bmpC; exact decide_eq_false (by omega)) _ _
            · rw [zI_toInt (by omega) (by omega)] at c
              omega
    · rw [ta1, tb1, ta2, tb2] at w
      refine And.intro (fun c => ?_) (fun c => ?_)
      · refine kno ?_ _ _
        unfold bmpC
        refine decide_eq_false (fun q => w ?_)
        have := ta5 (by omega)
        have := tb5 (by omega)
        omega
      · rw [zI_toInt (by omega) (by omega)] at c
        omega
theorem bump_out {Γ : AMG} {Q : QQ} {d : Nat} {I : II} {Lg : LJ} {R : RR} {gc : Nat → Nat} {P : List (NB × NB)} {rn : Nat → RUN} {tk : Int} (hl : P.length ≤ 24) (hlg : I 27 0 0 = zI P.length) (hnow : I 30 0 0 = zI tk) (hP : CPrs I P) (hr : ∀ a ∈ P, PRg rn a) :
    ∀ (m n : Nat) (x1 : Int32) (l2 l3 l4 : Option AV) (S : NST) (I1 : II), n + m = P.length → x1 = zI n → FrI (V0 bmv) I I1 → CNAt I1 S →
      (∀ I' : II, FrI (V0 bmv) I I' → CNAt I' (bmpL tk (P.drop n) S) → Q none I' Lg R (GM gc)) →
      am_J Γ mX6_bumpAll Q (d + 2) 0 0 10 [some (vR 6 0), some (vI x1), l2, l3, l4] [] I1 Lg R (GM gc) := by
  intro m
  induction m with
  | zero =>
    intro n x1 l2 l3 l4 S I1 hm hx hf hS h
    have hlt : (I1 27 0 0).toInt = P.length := by rw [hf _ _ rfl, hlg, zI_toInt (by omega) (by omega)]
    rw [List.drop_of_length_le (by omega)] at h
    refine am_goN vX6_bumpAll 60 ?_
    refine And.intro (fun c => ?_) (fun c => ?_)
    · exact h I1 hf hS
    · rw [hlt, hx, zI_toInt (by omega) (by omega)] at c
      omega
  | succ m ih =>
    intro n x1 l2 l3 l4 S I1 hm hx hf hS h
    have hlt : (I1 27 0 0).toInt = P.length := by rw [hf _ _ rfl, hlg, zI_toInt (by omega) (by omega)]
    have hn : n < P.length := by omega
    have he : P[n]? = some P[n] := List.getElem?_eq_getElem hn
    have hdr : P.drop n = P[n] :: P.drop (n + 1) := List.drop_eq_getElem_cons hn
    rw [hdr] at h
    generalize P[n] = a at he hdr h
    unfold bmpL at h
    have hxt : x1.toInt = n := by rw [hx, zI_toInt (by omega) (by omega)]
    refine am_J.er [true, true, false, false, false] ?_
    refine am_goN vX6_bumpAll 60 ?_
    refine And.intro (fun c => ?_) (fun c => ?_)
    · rw [hlt, hxt] at c
      omega
    refine And.intro (fun c => ?_) (fun c => ?_)
    · rw [hxt, zI_toInt (by omega) (by omega)] at c
      omega
    refine fun x2 ex2 => ?_
    refine bump_in hl hlg hnow hP hr hx he (P.length - (n + 1)) (n + 1) x2 _ _ S I1 (by omega) (by rw [ex2, hx, zI_add]; congr 1) hf hS (fun I2 x2 l3 l4 f2 s2 => ?_)
    refine am_goN vX6_bumpAll 2 ?_
    refine fun y ey => ?_
    exact ih (n + 1) y _ l3 l4 _ I2 (by omega) (by rw [ey, hx, zI_add]; congr 1) f2 s2 h
set_option maxRecDepth 100000 in
theorem s_bumpAll {Γ : AMG} {Q : QQ} {d : Nat} {I : II} {Lg : LJ} {R : RR} {gc : Nat → Nat} {B : List NB} {rn : Nat → RUN} {gs : Nat → Int32} {tk : Int} {S : NST} (hrn : RNSok rn) (hB : ∀ b ∈ B, NBok rn b) (hl : B.length ≤ 24) (hlg : I 27 0 0 = zI B.length) (hnow : I 30 0 0 = zI tk) (hM : CMid I rn gs B B.length) (hS : CNAt I S)
    (h : ∀ I' : II, FrI (V0 bmv) I I' → CNAt I' (bmpL tk (prN rn gs B) S) → Q none I' Lg R (GM gc)) : am_Sp Γ (d + 2) 0 0 mX6_bumpAll [vR 6 0] I Lg R (GM gc) Q := by
  have hpl : (prN rn gs B).length = B.length := by unfold prN; rw [List.length_map]
  have hpg : ∀ (j : Nat) (a : NB × NB), (prN rn gs B)[j]? = some a → ∃ b, B[j]? = some b ∧ a = (b, stpB rn gs b) := by
    intro j a ha
    unfold prN at ha
    rw [List.getElem?_map] at ha
    cases hb : B[j]? with
    | none => rw [hb] at ha; cases ha
    | some b => rw [hb] at ha; cases ha; exact ⟨b, rfl, rfl⟩
  have hP : CPrs I (prN rn gs B) := by
    intro j a ha
    obtain ⟨b, hb, rfl⟩ := hpg j a ha
    have hj := (List.getElem?_eq_some_iff.mp hb).1
    have := hM j b hb
    rw [if_pos hj] at this
    exact this
  have hr : ∀ a ∈ prN rn gs B, PRg rn a := by
    intro a ha
    obtain ⟨j, hj⟩ := List.mem_iff_getElem?.mp ha
    obtain ⟨b, hb, rfl⟩ := hpg j a hj
    exact prN_rg hrn (hB b (List.mem_of_getElem? hb))
  refine am_run vX6_bumpAll 60 _ rfl rfl rfl rfl ?_
  refine s_alike (rn := rn) (P := prN rn gs B) (by omega) (by rw [hpl]; exact hlg) hP hr (fun s hs => ?_) ?_
  · refine And.intro (fun c => ?_) (fun c => ?_)
    · rw [zI_toInt (by omega) (by omega)] at c
      omega
    · refine h I FrI.rf ?_
      rw [bmpL_no _ S (prN_alike hrn hB s (fun b hb hp => ?_))]
      · exact hS
      · obtain ⟨j, hj⟩ := List.mem_iff_getElem?.mp hb
        refine hs j (b, stpB rn gs b) ?_ hp
        unfold prN
        rw [List.getElem?_map, hj]
        rfl
  · refine And.intro (fun c => ?_) (fun c => ?_)
    · exact bump_out (by omega) (by rw [hpl]; exact hlg) hnow hP hr (prN rn gs B).length 0 _ _ _ _ S I (by omega) rfl FrI.rf hS h
    · rw [zI_toInt (by omega) (by omega)] at c
      omega
