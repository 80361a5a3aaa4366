/-! A run is told: the class. -/
def runOk (sz : Nat) (bs : Nat → Int) (nb : Nat) : Prop := sz % 3 = 0 ∧ 1 ≤ sz / 3 ∧ sz / 3 ≤ 12 ∧ ∀ p, p < sz / 3 → bs (3 * p) < nb ∧ goOk (sz / 3) p (bs (3 * p + 1)) ∧ goOk (sz / 3) p (bs (3 * p + 2))
set_option maxRecDepth 100000 in
theorem s_leadsOn {Γ : AMG} {Q : QQ} {d p n : Nat} {x0 x1 x2 : Int32} {t : Int} {I : II} {Lg : LJ} {R : RR} {G : GG} (h0 : x0 = zI t) (h1 : x1 = zI p) (h2 : x2 = zI n) (ht0 : 0 ≤ t) (ht1 : t ≤ 1000) (hp : p ≤ 1000) (hn : n ≤ 1000)
    (hy : goOk n p t → Q (some (vI (zI 1))) I Lg R G) (hno : ¬ goOk n p t → Q (some (vI (zI 0))) I Lg R G) : am_Sp Γ d 0 0 mX7_leadsOn [vI x0, vI x1, vI x2] I Lg R G Q := by
  have t0 : x0.toInt = t := by rw [h0, zI_toInt (by omega) (by omega)]
  have t1 : x1.toInt = p := by rw [h1, zI_toInt (by omega) (by omega)]
  have t2 : x2.toInt = n := by rw [h2, zI_toInt (by omega) (by omega)]
  unfold goOk at hy hno
  refine am_run vX7_leadsOn 60 _ rfl rfl rfl rfl ?_
  refine And.intro (fun c => ?_) (fun c => ?_)
  · rw [t0, zI_toInt (by omega) (by omega)] at c
    exact ⟨Or.inr rfl, hy (Or.inl c)⟩
  · rw [t0, zI_toInt (by omega) (by omega)] at c
    refine And.intro (fun c2 => ?_) (fun c2 => ?_)
    · exact ⟨Or.inl rfl, hno (by omega)⟩
    · refine And.intro (fun c3 => ?_) (fun c3 => ?_)
      · exact ⟨Or.inl rfl, hno (by omega)⟩
      · exact ⟨Or.inr rfl, hy (by omega)⟩
set_option maxRecDepth 100000 in
theorem isTold_loop {Γ : AMG} {Q : QQ} {d nb : Nat} {x1 x2 : Int32} {I : II} {Lg : LJ} {R : RR} {gc : Nat → Nat} {sz : Nat} {bs : Nat → Int} (hb : BSsok sz bs) (ht : TapeAt I sz bs) (hx1 : x1 = zI nb) (hnb : nb ≤ 16) (hx2 : x2 = zI (sz / 3 : Nat)) (h3 : sz % 3 = 0) (h12 : sz / 3 ≤ 12)
    (hy : (∀ p, p < sz / 3 → bs (3 * p) < nb ∧ goOk (sz / 3) p (bs (3 * p + 1)) ∧ goOk (sz / 3) p (bs (3 * p + 2))) → Q (some (vI (zI 1))) I Lg R (GM gc))
    (hn : ¬ (∀ p, p < sz / 3 → bs (3 * p) < nb ∧ goOk (sz / 3) p (bs (3 * p + 1)) ∧ goOk (sz / 3) p (bs (3 * p + 2))) → Q (some (vI (zI 0))) I Lg R (GM gc)) :
    ∀ (m k : Nat) (x3 : Int32), k + m = sz / 3 → x3 = zI k → (∀ p, p < k → bs (3 * p) < nb ∧ goOk (sz / 3) p (bs (3 * p + 1)) ∧ goOk (sz / 3) p (bs (3 * p + 2))) →
      am_J Γ mX7_isTold Q (d + 1) 0 0 31 [some (vR 10 0), some (vI x1), some (vI x2), some (vI x3)] [] I Lg R (GM gc) := by
  have hx2t : x2.toInt = (sz / 3 : Nat) := by rw [hx2, zI_toInt (by omega) (by omega)]
  have hx1t : x1.toInt = nb := by rw [hx1, zI_toInt (by omega) (by omega)]
  intro m
  induction m with
  | zero =>
    intro k x3 hk hx3 hi
    refine am_go vX7_isTold 60 ?_
    refine And.intro (fun c => ?_) (fun c => ?_)
    · exact ⟨Or.inr rfl, hy (fun p hp => hi p (by omega))⟩
    · rw [hx3, hx2t, zI_toInt (by omega) (by omega)] at c
      omega
  | succ m ih =>
    intro k x3 hk hx3 hi
    have hx3t : x3.toInt = k := by rw [hx3, zI_toInt (by omega) (by omega)]
    have b0 := hb.2 (3 * k)
    have b1 := hb.2 (3 * k + 1)
    have b2 := hb.2 (3 * k + 2)
    refine am_go vX7_isTold 80 ?_
    refine And.intro (fun c => ?_) (fun c => ?_)
    · rw [hx3t, hx2t] at c
      omega
    refine s_byteAtE (k := 3 * k) hb ht (by rw [hx3, zI_mul]; congr 1) (by omega) ?_
    refine And.intro (fun c => ?_) (fun c => ?_)
    · rw [hx1t, zI_toInt (by omega) (by omega)] at c
      exact ⟨Or.inl rfl, hn (fun q => by have := (q k (by omega)).1; omega)⟩
    rw [hx1t, zI_toInt (by omega) (by omega)] at c
    refine s_byteAtE (k := 3 * k + 1) hb ht (by rw [hx3, zI_mul, zI_add]; congr 1) (by omega) ?_
    refine s_leadsOn (p := k) (n := sz / 3) rfl hx3 hx2 (by omega) (by omega) (by omega) (by omega) (fun g1 => ?_) (fun g1 => ?_)
    · refine And.intro (fun c2 => ?_) (fun c2 => ?_)
      · rw [zI_toInt (by omega) (by omega)] at c2
        omega
      refine s_byteAtE (k := 3 * k + 2) hb ht (by rw [hx3, zI_mul, zI_add]; congr 1) (by omega) ?_
      refine s_leadsOn (p := k) (n := sz / 3) rfl hx3 hx2 (by omega) (by omega) (by omega) (by omega) (fun g2 => ?_) (fun g2 => ?_)
      · refine And.intro (fun c2 => ?_) (fun c2 => ?_)
        · refine ih (k + 1) _ (by omega) (by rw [hx3, zI_add]; congr 1) (fun p hp => ?_)
          by_cases hpk : p = k
          · subst hpk; exact ⟨c, g1, g2⟩
          · exact hi p (by omega)
        · rw [zI_toInt (by omega) (by omega)] at c2
          omega
      · refine And.intro (fun c2 => ?_) (fun c2 => ?_)
        · rw [zI_toInt (by omega) (by omega)] at c2
          omega
        · exact ⟨Or.inl rfl, hn (fun q => g2 (q k (by omega)).2.2)⟩
    · refine And.intro (fun c2 => ?_) (fun c2 => ?_)
      · exact ⟨Or.inl rfl, hn (fun q => g1 (q k (by omega)).2.1)⟩
      · rw [zI_toInt (by omega) (by omega)] at c2
        omega
set_option maxRecDepth 100000 in
theorem s_isTold {Γ : AMG} {Q : QQ} {d nb : Nat} {x1 : Int32} {I : II} {Lg : LJ} {R : RR} {gc : Nat → Nat} {sz : Nat} {bs : Nat → Int} (hb : BSsok sz bs) (ht : TapeAt I sz bs) (hx1 : x1 = zI nb) (hnb : nb ≤ 16)
    (hy : runOk sz bs nb → Q (some (vI (zI 1))) I Lg R (GM gc)) (hn : ¬ runOk sz bs nb → Q (some (vI (zI 0))) I Lg R (GM gc)) : am_Sp Γ (d + 1) 0 0 mX7_isTold [vR 10 0, vI x1] I Lg R (GM gc) Q := by
  have hsz := hb.1
  refine am_run vX7_isTold 60 _ rfl rfl rfl rfl ?_
  refine And.intro (by rw [zI_toInt (by omega) (by omega)]; omega) ?_
  rw [ht.1]
  have hd : zI (sz : Int) / zI 3 = zI (sz / 3 : Nat) := by rw [zI_divN (by omega) (by omega) (by omega) (by omega)]; congr 1
  refine And.intro (by rw [zI_toInt (by omega) (by omega)]; omega) ?_
  refine And.intro (fun c => ?_) (fun c => ?_)
  · rw [ht.1, zI_remN (by omega) (by omega) (by omega) (by omega), zI_toInt (by omega) (by omega)] at c
    exact ⟨Or.inl rfl, hn (fun q => by have := q.1; omega)⟩
  · rw [ht.1, zI_remN (by omega) (by omega) (by omega) (by omega), zI_toInt (by omega) (by omega)] at c
    refine And.intro (fun c2 => ?_) (fun c2 => ?_)
    · rw [hd, zI_toInt (by omega) (by omega), zI_toInt (by omega) (by omega)] at c2
      exact ⟨Or.inl rfl, hn (fun q => by have := q.2.1; omega)⟩
    · rw [hd, zI_toInt (by omega) (by omega), zI_toInt (by omega) (by omega)] at c2
      refine And.intro (fun c3 => ?_) (fun c3 => ?_)
      · rw [hd, zI_toInt (by omega) (by omega), zI_toInt (by omega) (by omega)] at c3
        exact isTold_loop hb ht hx1 hnb hd (by omega) (by omega) (fun q => hy ⟨by omega, by omega, by omega, q⟩) (fun q => hn (fun z => q z.2.2.2)) (sz / 3) 0 _ (by omega) rfl (fun p hp => by omega)
      · rw [hd, zI_toInt (by omega) (by omega), zI_toInt (by omega) (by omega)] at c3
        exact ⟨Or.inl rfl, hn (fun q => by have := q.2.2.1; omega)⟩
