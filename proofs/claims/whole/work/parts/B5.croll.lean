/-! A ball rolls to the end of its board. -/
/-- the tick in which a ball comes over the end, its part and speed then -/
def rolE (b : BD) : Nat → Int → Int → Int → Option (Int × Int × Int)
  | 0, _, _, _ => none
  | f + 1, t, p, s => if b.1 ≤ p + spd b s then some (t + 1, p + spd b s, spd b s) else rolE b f (t + 1) (p + spd b s) (spd b s)
theorem rolE_0 {b : BD} {p : Int} (hs : spd b 0 = 0) (hp : p < b.1) : ∀ (f : Nat) (t : Int), rolE b f t p 0 = none
  | 0, _ => rfl
  | f + 1, t => by
    unfold rolE
    rw [hs, if_neg (by omega), Int.add_zero]
    exact rolE_0 hs hp f (t + 1)
/-- a speed that stays: the ticks are one step -/
theorem rolE_s {b : BD} {s : Int} (hs : spd b s = s) (h0 : 0 < s) : ∀ (f : Nat) (t p : Int), p < b.1 → rolE b f t p s = if (b.1 - p + s - 1) / s ≤ f then some (t + (b.1 - p + s - 1) / s, p + (b.1 - p + s - 1) / s * s, s) else none
  | 0, t, p, hp => by
    have h1 : (1 : Int) ≤ (b.1 - p + s - 1) / s := by
      rw [Int.le_ediv_iff_mul_le h0]
      omega
    rw [if_neg (by omega)]
    rfl
  | f + 1, t, p, hp => by
    unfold rolE
    rw [hs]
    by_cases q : b.1 ≤ p + s
    · have h1 : (b.1 - p + s - 1) / s = 1 := by
        have e1 : (1 : Int) ≤ (b.1 - p + s - 1) / s := by
          rw [Int.le_ediv_iff_mul_le h0]
          omega
        have e2 : (b.1 - p + s - 1) / s < 2 := by
          rw [Int.ediv_lt_iff_lt_mul h0]
          omega
        omega
      rw [if_pos q, h1, if_pos (by omega), Int.one_mul]
    · have h1 : (b.1 - p + s - 1) / s = (b.1 - (p + s) + s - 1) / s + 1 := by
        rw [show b.1 - p + s - 1 = (b.1 - (p + s) + s - 1) + s by omega, Int.add_ediv_of_dvd_right (Int.dvd_refl s), Int.ediv_self (by omega)]
      rw [if_neg q, rolE_s hs h0 f (t + 1) (p + s) (by omega), h1]
      generalize (b.1 - (p + s) + s - 1) / s = m
      by_cases z : m ≤ f
      · rw [if_pos z, if_pos (by omega)]
        rw [show t + 1 + m = t + (m + 1) by omega, Int.add_mul, Int.one_mul, show p + s + m * s = p + (m * s + s) by omega]
      · rw [if_neg z, if_neg (by omega)]
set_option maxRecDepth 100000 in
theorem s_glide {Γ : AMG} {Q : QQ} {d bo : Nat} {x2 x3 : Int32} {I : II} {Lg : LJ} {R : RR} {gc : Nat → Nat} {x : BD} {l : BL} {t : Int} {f : Nat} (hb : BDok x) (hB : BoardAt I bo x) (hL : BallAt I 26 l) (hs : spd x l.2.2.1 = l.2.2.1) (hs0 : 0 ≤ l.2.2.1) (hs1 : l.2.2.1 ≤ 1023) (hp0 : 0 ≤ l.2.1) (hp1 : l.2.1 < x.1) (hx2 : x2 = zI t) (hx3 : x3 = zI (t + f)) (ht : 0 ≤ t ∧ t + f ≤ 2000)
    (hn : rolE x f t l.2.1 l.2.2.1 = none → ∀ I' : II, FrI (V1 bvars 26) I I' → Q (some (vI (zI (-1)))) I' Lg R (GM gc))
    (hy : ∀ t' p' s' : Int, rolE x f t l.2.1 l.2.2.1 = some (t', p', s') → ∀ I' : II, FrI (V1 bvars 26) I I' → (∃ a b : Int, BallAt I' 26 (l.1, p', s', a, b)) → Q (some (vI (zI t'))) I' Lg R (GM gc)) :
    am_Sp Γ d 0 0 mX2_glideToEnd [vR 2 0, vR 1 bo, vI x2, vI x3] I Lg R (GM gc) Q := by
  obtain ⟨b1, -, -, -, -⟩ := hB
  obtain ⟨l1, l2, l3, l4, l5⟩ := id hL
  have g1 := hb.1
  have g2 := hb.2.1
  have hst : (I 3 26 0).toInt = l.2.2.1 := by rw [l3, zI_toInt (by omega) (by omega)]
  refine am_runN vX2_glideToEnd 4 _ rfl rfl rfl rfl ?_
  refine And.intro (fun c => ?_) (fun c => ?_)
  · rw [hst] at c
    have hm := rolE_s (b := x) hs c f t l.2.1 hp1
    generalize hq : (x.1 - l.2.1 + l.2.2.1 - 1) / l.2.2.1 = m at hm
    have hm0 : 0 ≤ m ∧ m ≤ 4000 := by
      rw [← hq]
      refine ⟨Int.ediv_nonneg (by omega) (by omega), ?_⟩
      have : (x.1 - l.2.1 + l.2.2.1 - 1) / l.2.2.1 ≤ x.1 - l.2.1 + l.2.2.1 - 1 := Int.ediv_le_self _ (by omega)
      omega
    have hmm : 0 ≤ m * l.2.2.1 ∧ m * l.2.2.1 ≤ 4000 * 1023 := ⟨Int.mul_nonneg hm0.1 (by omega), Int.mul_le_mul hm0.2 hs1 (by omega) (by omega)⟩
    refine am_goN vX2_glideToEnd 17 ?_
    refine And.intro ?_ ?_
    · rw [hst]
      omega
    refine fun x4 ex4 => ?_
    have hx4 : x4 = zI m := by
      rw [ex4, b1, l2, l3, zI_sub, zI_add, zI_sub, zI_div (by omega) (by omega) (by omega) (by omega), Int.tdiv_eq_ediv_of_nonneg (by omega), hq]
    have hx4t : x4.toInt = m := by rw [hx4, zI_toInt (by omega) (by omega)]
    refine am_goN vX2_glideToEnd 11 ?_
    refine fun y1 ey1 I1 e1 => ?_
    have f1 : FrI (V1 bvars 26) I I1 := by rw [e1]; exact FrI.rf.up (V1_in rfl)
    have hB1 : ∃ a b : Int, BallAt I1 26 (l.1, l.2.1 + m * l.2.2.1, l.2.2.1, a, b) := by
      refine ⟨l.2.2.2.1, l.2.2.2.2, ?_, ?_, ?_, ?_, ?_⟩
      · rw [e1, up3_v _ (by decide)]; exact l1
      · rw [e1, up3_s, ey1, l2, l3, hx4, zI_mul, zI_add]
      · rw [e1, up3_v _ (by decide)]; exact l3
      · rw [e1, up3_v _ (by decide)]; exact l4
      · rw [e1, up3_v _ (by decide)]; exact l5
    have hsum : x2 + x4 = zI (t + m) := by rw [hx2, hx4, zI_add]
    refine am_goN vX2_glideToEnd 5 ?_
    refine And.intro (fun c2 => ?_) (fun c2 => ?_)
    · rw [hsum, hx3, zI_toInt (by omega) (by omega), zI_toInt (by omega) (by omega)] at c2
      rw [if_neg (by omega)] at hm
      refine am_goN vX2_glideToEnd 5 ?_
      exact hn hm I1 f1
    · rw [hsum, hx3, zI_toInt (by omega) (by omega), zI_toInt (by omega) (by omega)] at c2
      rw [if_pos (by omega)] at hm
      refine am_goN vX2_glideToEnd 6 ?_
      have hh := hy _ _ _ hm I1 f1 hB1
      rw [← hsum] at hh
      exact hh
  · rw [hst] at c
    have h0 : l.2.2.1 = 0 := by omega
    rw [h0] at hs hn
    refine am_goN vX2_glideToEnd 5 ?_
    exact hn (rolE_0 hs hp1 f t) I FrI.rf
set_option maxRecDepth 100000 in
theorem rollEnd_loop {Γ : AMG} {Q : QQ} {d bo : Nat} {x2 x3 : Int32} {I : II} {Lg : LJ} {R : RR} {gc : Nat → Nat} {x : BD} {la pl : Int} (hb : BDok x) (hB : BoardAt I bo x) (hx3 : x3 = zI la) (hla : la ≤ 2000) :
    ∀ (f : Nat) (t p s : Int) (x4 : Int32) (l5 : Option AV) (I1 : II), t + f = la → 0 ≤ t → x4 = zI (t + 1) → FrI (V1 bvars 26) I I1 → (∃ a b : Int, BallAt I1 26 (pl, p, s, a, b)) → 0 ≤ s → s ≤ 1023 → 0 ≤ p → p < x.1 →
      (rolE x f t p s = none → ∀ I' : II, FrI (V1 bvars 26) I I' → Q (some (vI (zI (-1)))) I' Lg R (GM gc)) →
      (∀ t' p' s' : Int, rolE x f t p s = some (t', p', s') → ∀ I' : II, FrI (V1 bvars 26) I I' → (∃ a b : Int, BallAt I' 26 (pl, p', s', a, b)) → Q (some (vI (zI t'))) I' Lg R (GM gc)) →
      am_J Γ mX2_rollToEnd Q (d + 2) 0 0 5 [some (vR 2 0), some (vR 1 bo), some (vI x2), some (vI x3), some (vI x4), l5] [] I1 Lg R (GM gc) := by
  have g1 := hb.1
  have g2 := hb.2.1
  intro f
  induction f with
  | zero =>
    intro t p s x4 l5 I1 h1 h2 hx4 f1 hL hs0 hs1 hp0 hp1 hn hy
    refine am_J.er [true, true, true, true, true, false] ?_
    refine am_goN vX2_rollToEnd 3 ?_
    refine And.intro (fun c => ?_) (fun c => ?_)
    · refine am_goN vX2_rollToEnd 5 ?_
      exact hn rfl I1 f1
    · rw [hx4, hx3, zI_toInt (by omega) (by omega), zI_toInt (by omega) (by omega)] at c
      omega
  | succ f ih =>
    intro t p s x4 l5 I1 h1 h2 hx4 f1 hL hs0 hs1 hp0 hp1 hn hy
    obtain ⟨a, b, hL⟩ := hL
    have hsp := spd_rng (s := s) hb
    refine am_J.er [true, true, true, true, true, false] ?_
    refine am_goN vX2_rollToEnd 3 ?_
    refine And.intro (fun c => ?_) (fun c => ?_)
    · rw [hx4, hx3, zI_toInt (by omega) (by omega), zI_toInt (by omega) (by omega)] at c
      omega
    refine am_goN vX2_rollToEnd 4 ?_
    refine fun x5 ex5 => ?_
    have hx5 : x5 = zI s := ex5.trans hL.2.2.1
    have hB1 : BoardAt I1 bo x := hB.fr f1 (V1_out (by decide))
    unfold rolE at hn hy
    refine am_goN vX2_rollToEnd 5 ?_
    refine s_rolls hb hB1 hL hs0 hs1 hp0 (by show p ≤ 1000000; omega) (fun I2 f2 hL2 => ?_)
    have f12 : FrI (V1 bvars 26) I I2 := f1.tr f2
    refine ⟨fun hov => ?_, fun hov => ?_⟩
    · have hov : x.1 ≤ p + spd x s := hov
      rw [if_pos hov] at hn hy
      refine And.intro (fun c2 => ?_) (fun _ => ?_)
      · rw [zI_toInt (by omega) (by omega)] at c2
        omega
      refine am_goN vX2_rollToEnd 3 ?_
      have hh := hy _ _ _ rfl I2 f12 ⟨_, _, hL2⟩
      rw [← hx4] at hh
      exact hh
    · have hov : p + spd x s < x.1 := hov
      rw [if_neg (by omega)] at hn hy
      have hL2 : BallAt I2 26 (pl, p + spd x s, spd x s, pl, p) := hL2
      have hst : (I2 3 26 0).toInt = spd x s := by
        rw [show I2 3 26 0 = zI (spd x s) from hL2.2.2.1, zI_toInt (by omega) (by omega)]
      have hB2 : BoardAt I2 bo x := hB1.fr f2 (V1_out (by decide))
      refine And.intro (fun _ => ?_) (fun c2 => ?_)
      · refine am_goN vX2_rollToEnd 5 ?_
        refine And.intro (fun c3 => ?_) (fun c3 => ?_)
        · refine am_goN vX2_rollToEnd 2 ?_
          refine fun y ey => ?_
          exact ih (t + 1) (p + spd x s) (spd x s) y _ I2 (by omega) (by omega) (by rw [ey, hx4, zI_add]) f12 ⟨_, _, hL2⟩ hsp.1 hsp.2 (by omega) hov hn hy
        · rw [hst, hx5, zI_toInt (by omega) (by omega)] at c3
          refine am_goN vX2_rollToEnd 8 ?_
          refine s_glide (t := t + 1) (f := f) hb hB2 hL2 (by show spd x (spd x s) = spd x s; rw [c3, c3]) hsp.1 hsp.2 (by show 0 ≤ p + spd x s; omega) hov hx4 (by rw [hx3]; congr 1; omega) ⟨by omega, by omega⟩ (fun h I3 f3 => hn h I3 (f12.tr f3)) (fun t' p' s' h I3 f3 hb3 => hy t' p' s' h I3 (f12.tr f3) hb3)
      · rw [zI_toInt (by omega) (by omega)] at c2
        omega
set_option maxRecDepth 100000 in
theorem s_rollToEnd {Γ : AMG} {Q : QQ} {d bo : Nat} {x2 x3 : Int32} {I : II} {Lg : LJ} {R : RR} {gc : Nat → Nat} {x : BD} {l : BL} {t : Int} {f : Nat} (hb : BDok x) (hB : BoardAt I bo x) (hL : BallAt I 26 l) (hs0 : 0 ≤ l.2.2.1) (hs1 : l.2.2.1 ≤ 1023) (hp0 : 0 ≤ l.2.1) (hp1 : l.2.1 < x.1) (hx2 : x2 = zI t) (hx3 : x3 = zI (t + f)) (ht : 0 ≤ t ∧ t + f ≤ 2000)
    (hn : rolE x f t l.2.1 l.2.2.1 = none → ∀ I' : II, FrI (V1 bvars 26) I I' → Q (some (vI (zI (-1)))) I' Lg R (GM gc))
    (hy : ∀ t' p' s' : Int, rolE x f t l.2.1 l.2.2.1 = some (t', p', s') → ∀ I' : II, FrI (V1 bvars 26) I I' → (∃ a b : Int, BallAt I' 26 (l.1, p', s', a, b)) → Q (some (vI (zI t'))) I' Lg R (GM gc)) :
    am_Sp Γ (d + 2) 0 0 mX2_rollToEnd [vR 2 0, vR 1 bo, vI x2, vI x3] I Lg R (GM gc) Q := by
  refine am_runN vX2_rollToEnd 4 _ rfl rfl rfl rfl ?_
  refine fun x4 ex4 => ?_
  exact rollEnd_loop (pl := l.1) hb hB hx3 ht.2 f t l.2.1 l.2.2.1 x4 _ I rfl ht.1 (by rw [ex4, hx2, zI_add]) FrI.rf ⟨_, _, hL⟩ hs0 hs1 hp0 hp1 hn hy
