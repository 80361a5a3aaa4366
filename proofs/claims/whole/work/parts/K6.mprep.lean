/-! made in the reference: binomials, masks, chances. -/
theorem gb_z {v p : Nat} (hv : v < 2 ^ 31) : gb (zI (v : Int)) p = (v.testBit p).toNat := by
  unfold gb
  rw [zI_nI, pk_tn (by omega), Nat.testBit_eq_decide_div_mod_eq]
  have : v / 2 ^ p % 2 = 0 ∨ v / 2 ^ p % 2 = 1 := by omega
  rcases this with h | h <;> rw [h] <;> rfl
def BinAt (I : II) : Prop := ∀ n k, n < 25 → k < 6 → I 172 0 (6 * n + k) = zI (bc n k)
def OffAt (I : II) (nm : Nat) : Prop := ∀ i, i < 2 ^ nm → I 169 0 i = zI (off nm i)
theorem BinAt.fr {I I' : II} {P : Nat → Nat → Bool} (h : BinAt I) (hf : FrI P I I') (hP : P 172 0 = false) : BinAt I' := fun n k a b => by rw [hf _ _ hP]; exact h n k a b
theorem OffAt.fr {I I' : II} {P : Nat → Nat → Bool} {nm : Nat} (h : OffAt I nm) (hf : FrI P I I') (hP : P 169 0 = false) : OffAt I' nm := fun i a => by rw [hf _ _ hP]; exact h i a
section MPREP
variable {Γ : AMG} {Q : QQ} {d : Nat} {I : II} {Lg : LJ} {R : RR} {gc : Nat → Nat}
set_option maxRecDepth 100000 in
theorem s_choose {n k : Nat} {x1 x2 : Int32} (hn : n < 25) (hk : k < 6) (hx1 : x1 = zI n) (hx2 : x2 = zI k) (hb : BinAt I) (h : Q (some (vI (zI (bc n k)))) I Lg R (GM gc)) :
    am_Sp Γ d 0 0 mX12_choose [vR 12 0, vI x1, vI x2] I Lg R (GM gc) Q := by
  have e : (zI 6 * x1 + x2).toInt = ((6 * n + k : Nat) : Int) := by rw [hx1, hx2, zI_mul, zI_add, zI_toInt (by omega) (by omega)]; omega
  refine am_runN vX12_choose 20 _ rfl rfl rfl rfl ?_
  refine And.intro ⟨by omega, by omega⟩ ?_
  rw [e, Int.toNat_natCast, hb n k hn hk]
  exact h
set_option maxRecDepth 100000 in
theorem s_bitsO4 {v : Nat} {x0 : Int32} (hv : v < 2 ^ 31) (hx0 : x0 = zI v) (h : Q (some (vI (zI (bits v)))) I Lg R (GM gc)) : am_Sp Γ d 0 0 mX12_bitsOf [vI x0] I Lg R (GM gc) Q := by
  have loop : ∀ (m k : Nat) (x1 x2 : Int32), k + m = 12 → x1 = zI (btc v k) → x2 = zI k → am_J Γ mX12_bitsOf Q d 0 0 4 [some (vI x0), some (vI x1), some (vI x2)] [] I Lg R (GM gc) := by
    intro m
    induction m with
    | zero =>
      intro k x1 x2 hk hx1 hx2
      have h2t : x2.toInt = k := by rw [hx2, zI_toInt (by omega) (by omega)]
      refine am_goN vX12_bitsOf 20 ?_
      refine And.intro (fun _ => ?_) (fun z => ?_)
      · rw [hx1, show k = 12 by omega]
        exact h
      · rw [h2t, zI_toInt (by omega) (by omega)] at z
        omega
    | succ m ih =>
      intro k x1 x2 hk hx1 hx2
      have h2t : x2.toInt = k := by rw [hx2, zI_toInt (by omega) (by omega)]
      refine am_goN vX12_bitsOf 20 ?_
      refine And.intro (fun z => ?_) (fun _ => ?_)
      · rw [h2t, zI_toInt (by omega) (by omega)] at z
        omega
      refine fun y1 ey1 y2 ey2 => ?_
      refine ih (k + 1) y1 y2 (by omega) ?_ (by rw [ey2, hx2, zI_add]; congr 1)
      have hs : (x0 >>> (x2 &&& 31)) &&& zI 1 = zI ((v.testBit k).toNat : Nat) := by rw [hx0, hx2, gb_s (by omega), gb_z hv]
      have ey1 : y1 = x1 + ((x0 >>> (x2 &&& 31)) &&& zI 1) := ey1
      rw [ey1, hs, hx1, zI_add]
      rfl
  refine am_runN vX12_bitsOf 4 _ rfl rfl rfl rfl ?_
  refine fun y1 ey1 y2 ey2 => ?_
  exact loop 12 0 y1 y2 (by omega) ey1 ey2
set_option maxRecDepth 100000 in
theorem s_prepare {nm : Nat} (hnm : nm ≤ 4) (hmen : I 60 0 0 = zI nm) (h : ∀ I' : II, FrI (V0 [172, 169]) I I' → BinAt I' → OffAt I' nm → Q none I' Lg R (GM gc)) :
    am_Sp Γ (d + 1) 0 0 mX12_prepare [vR 12 0] I Lg R (GM gc) Q := by
  have hpow : ∀ n : Nat, n < 5 → 2 ^ n ≤ 16 := by decide +kernel
  have h16 := hpow nm (by omega)
  have hshl : zI 1 <<< (zI (nm : Int) &&& 31) = zI ((2 ^ nm : Nat) : Int) := by
    have := zI_shl (a := 1) (k := nm) (by omega) (by omega)
    rw [Nat.one_mul] at this
    exact this
  -- where the cells begin
  have offs : ∀ (m i : Nat) (x1 x2 : Int32) (I1 : II), i + m = 2 ^ nm → x1 = zI (off nm i) → x2 = zI i → FrI (V0 [172, 169]) I I1 → BinAt I1 → (∀ j, j < i → I1 169 0 j = zI (off nm j)) →
      am_J Γ mX12_prepare Q (d + 1) 0 0 92 [some (vR 12 0), some (vI x1), some (vI x2)] [] I1 Lg R (GM gc) := by
    intro m
    induction m with
    | zero =>
      intro i x1 x2 I1 hi hx1 hx2 f1 hb ho
      have h2t : x2.toInt = i := by rw [hx2, zI_toInt (by omega) (by omega)]
      have hm1 : I1 60 0 0 = zI nm := by rw [f1 60 _ rfl]; exact hmen
      refine am_goN vX12_prepare 20 ?_
      refine And.intro (fun _ => ?_) (fun z => ?_)
      · exact h I1 f1 hb (fun j hj => ho j (by omega))
      · have z : x2.toInt < (zI 1 <<< (I1 60 0 0 &&& 31)).toInt := z
        rw [hm1, hshl, h2t, zI_toInt (by omega) (by omega)] at z
        omega
    | succ m ih =>
      intro i x1 x2 I1 hi hx1 hx2 f1 hb ho
      have h2t : x2.toInt = i := by rw [hx2, zI_toInt (by omega) (by omega)]
      have hm1 : I1 60 0 0 = zI nm := by rw [f1 60 _ rfl]; exact hmen
      have hbl := btc_le i 12
      have hbn : bits i ≤ nm := by rw [bits_eq (show i < 2 ^ nm by omega) hnm]; exact btc_le i nm
      refine am_goN vX12_prepare 6 ?_
      refine And.intro (fun z => ?_) (fun _ => ?_)
      · have z : (zI 1 <<< (I1 60 0 0 &&& 31)).toInt ≤ x2.toInt := z
        rw [hm1, hshl, h2t, zI_toInt (by omega) (by omega)] at z
        omega
      refine am_goN vX12_prepare 30 ?_
      refine And.intro ⟨by omega, by omega⟩ ?_
      refine fun y ey I2 e2 => ?_
      rw [h2t, Int.toNat_natCast] at e2
      have f2 : FrI (V0 [169]) I1 I2 := by rw [e2]; exact FrI.rf.up rfl
      have hm2 : I2 60 0 0 = zI nm := by rw [f2 60 _ rfl]; exact hm1
      refine s_bitsO4 (by omega) hx2 ?_
      refine s_choose (n := 24) (k := nm - bits i) (by omega) (by omega) rfl (by rw [hm2, zI_sub]; congr 1; omega) (hb.fr f2 rfl) ?_
      refine fun y1 ey1 y2 ey2 => ?_
      refine ih (i + 1) y1 y2 I2 (by omega) (by rw [ey1, hx1, zI_add]; rfl) (by rw [ey2, hx2, zI_add]; congr 1) (by rw [e2]; exact f1.up rfl) (hb.fr f2 rfl) (fun j hj => ?_)
      rw [e2]
      by_cases g : j = i
      · rw [g, up3_s, ey, hx1]
      · rw [up3_j _ g]
        exact ho j (by omega)
  -- the binomials
  have bins : ∀ (m n : Nat) (x1 : Int32) (l2 : Option AV) (I1 : II), n + m = 25 → x1 = zI n → FrI (V0 [172, 169]) I I1 → (∀ a k, a < n → k < 6 → I1 172 0 (6 * a + k) = zI (bc a k)) →
      am_J Γ mX12_prepare Q (d + 1) 0 0 2 [some (vR 12 0), some (vI x1), l2] [] I1 Lg R (GM gc) := by
    intro m
    induction m with
    | zero =>
      intro n x1 l2 I1 hn hx1 f1 hb
      have h1t : x1.toInt = n := by rw [hx1, zI_toInt (by omega) (by omega)]
      refine am_goN vX12_prepare 3 ?_
      refine And.intro (fun _ => ?_) (fun z => ?_)
      · refine am_goN vX12_prepare 10 ?_
        refine fun y1 ey1 y2 ey2 => ?_
        exact offs (2 ^ nm) 0 y1 y2 I1 (by omega) ey1 ey2 f1 (fun a k ha hk => hb a k (by omega) hk) (fun j hj => absurd hj (Nat.not_lt_zero _))
      · rw [h1t, zI_toInt (by omega) (by omega)] at z
        omega
    | succ m ih =>
      intro n x1 l2 I1 hn hx1 f1 hb
      have h1t : x1.toInt = n := by rw [hx1, zI_toInt (by omega) (by omega)]
      have row : ∀ (m2 k : Nat) (x2 : Int32) (I1 : II), k + m2 = 6 → 1 ≤ k → x2 = zI k → FrI (V0 [172, 169]) I I1 → (∀ a j, (a < n ∨ a = n ∧ j < k) → j < 6 → I1 172 0 (6 * a + j) = zI (bc a j)) →
          am_J Γ mX12_prepare Q (d + 1) 0 0 20 [some (vR 12 0), some (vI x1), some (vI x2)] [] I1 Lg R (GM gc) := by
        intro m2
        induction m2 with
        | zero =>
          intro k x2 I1 hk hk1 hx2 f1 hb
          have h2t : x2.toInt = k := by rw [hx2, zI_toInt (by omega) (by omega)]
          refine am_goN vX12_prepare 3 ?_
          refine And.intro (fun _ => ?_) (fun z => ?_)
          · refine am_goN vX12_prepare 10 ?_
            refine fun y1 ey1 => ?_
            exact ih (n + 1) y1 _ I1 (by omega) (by rw [ey1, hx1, zI_add]; congr 1) f1 (fun a j ha hj => hb a j (by omega) hj)
          · rw [h2t, zI_toInt (by omega) (by omega)] at z
            omega
        | succ m2 ih2 =>
          intro k x2 I1 hk hk1 hx2 f1 hb
          have h2t : x2.toInt = k := by rw [hx2, zI_toInt (by omega) (by omega)]
          have ix : (zI 6 * x1 + x2).toInt = ((6 * n + k : Nat) : Int) := by rw [hx1, hx2, zI_mul, zI_add, zI_toInt (by omega) (by omega)]; omega
          -- the value that is stored
          have put : ∀ y : Int32, y = zI (bc n k) → am_J Γ mX12_prepare Q (d + 1) 0 0 75 [some (vR 12 0), some (vI x1), some (vI x2)] [vI y, vI (zI 6 * x1 + x2), vR 110 0] I1 Lg R (GM gc) := by
            intro y hy
            refine am_goN vX12_prepare 10 ?_
            refine And.intro ⟨by omega, by omega⟩ ?_
            refine fun y2 ey2 I2 e2 => ?_
            refine fun y3 ey3 => ?_
            rw [ix, Int.toNat_natCast] at e2
            refine ih2 (k + 1) y3 I2 (by omega) (by omega) (by rw [ey3, hx2, zI_add]; congr 1) (by rw [e2]; exact f1.up rfl) (fun a j ha hj => ?_)
            rw [e2]
            by_cases g : 6 * a + j = 6 * n + k
            · have g1 : a = n := by omega
              have g2 : j = k := by omega
              rw [g, up3_s, g1, g2, ey2, hy]
            · rw [up3_j _ g]
              exact hb a j (by omega) hj
          refine am_goN vX12_prepare 3 ?_
          refine And.intro (fun z => ?_) (fun _ => ?_)
          · rw [h2t, zI_toInt (by omega) (by omega)] at z
            omega
          refine am_goN vX12_prepare 9 ?_
          obtain ⟨k', rfl⟩ : ∃ k', k = k' + 1 := ⟨k - 1, by omega⟩
          refine And.intro (fun z => ?_) (fun z => ?_)
          · rw [h1t] at z
            obtain ⟨n', rfl⟩ : ∃ n', n = n' + 1 := ⟨n - 1, by omega⟩
            have ix1 : (zI 6 * x1 - zI 6 + x2).toInt = ((6 * n' + (k' + 1) : Nat) : Int) := by rw [hx1, hx2, zI_mul, zI_sub, zI_add, zI_toInt (by omega) (by omega)]; omega
            have ix2 : (zI 6 * x1 - zI 6 + x2 - zI 1).toInt = ((6 * n' + k' : Nat) : Int) := by rw [hx1, hx2, zI_mul, zI_sub, zI_add, zI_sub, zI_toInt (by omega) (by omega)]; omega
            refine am_goN vX12_prepare 23 ?_
            refine And.intro ⟨by omega, by omega⟩ ?_
            refine And.intro ⟨by omega, by omega⟩ ?_
            refine put _ ?_
            rw [ix1, ix2, Int.toNat_natCast, Int.toNat_natCast, hb n' (k' + 1) (by omega) (by omega), hb n' k' (by omega) (by omega), zI_add]
            rfl
          · rw [h1t] at z
            have hn0 : n = 0 := by omega
            refine am_goN vX12_prepare 2 ?_
            refine put _ ?_
            rw [hn0]
            rfl
      have ix0 : (zI 6 * x1).toInt = ((6 * n : Nat) : Int) := by rw [hx1, zI_mul, zI_toInt (by omega) (by omega)]; omega
      refine am_goN vX12_prepare 3 ?_
      refine And.intro (fun z => ?_) (fun _ => ?_)
      · rw [h1t, zI_toInt (by omega) (by omega)] at z
        omega
      refine am_goN vX12_prepare 20 ?_
      refine And.intro ⟨by omega, by omega⟩ ?_
      refine fun y ey I2 e2 => ?_
      refine fun y2 ey2 => ?_
      rw [ix0, Int.toNat_natCast] at e2
      refine row 5 1 y2 I2 (by omega) (by omega) ey2 (by rw [e2]; exact f1.up rfl) (fun a j ha hj => ?_)
      rw [e2]
      by_cases g : 6 * a + j = 6 * n
      · have g1 : a = n := by omega
        have g2 : j = 0 := by omega
        rw [g, up3_s, g1, g2, ey, bc_0]
        rfl
      · rw [up3_j _ g]
        exact hb a j (by omega) hj
  refine am_runN vX12_prepare 2 _ rfl rfl rfl rfl ?_
  refine fun y1 ey1 => ?_
  exact bins 25 0 y1 _ I (by omega) ey1 FrI.rf (fun a k ha _ => absurd ha (Nat.not_lt_zero _))
variable {ml : List MC} {es : List EV} {mn : List Int}
set_option maxRecDepth 100000 in
theorem s_mayFollow {l e : Nat} {x1 x2 : Int32} (hl : MCsok ml) (hm : MMAt I ml) (hp : MPAt I es) (hes : EVsok ml es) (hll : l < es.length) (hle : e < es.length) (hx1 : x1 = zI l) (hx2 : x2 = zI e)
    (h1 : mmy ml es mn (mn.length + l) e = true → Q (some (vI (zI 1))) I Lg R (GM gc)) (h0 : mmy ml es mn (mn.length + l) e = false → Q (some (vI (zI 0))) I Lg R (GM gc)) :
    am_Sp Γ (d + 1) 0 0 mX12_mayFollow [vR 12 0, vI x1, vI x2] I Lg R (GM gc) Q := by
  have h24 := hes.1
  have hgl := evD_get hll
  have hge := evD_get hle
  obtain ⟨u1, u2, u3, u4, u5, u6⟩ := hes.2 _ _ hgl
  obtain ⟨v1, v2, v3, v4, v5, v6⟩ := hes.2 _ _ hge
  have p1 := plc_rng hl hes hll
  have p2 := plc_rng hl hes hle
  have tk := etk_rng (hes.2 _ _ hgl)
  have h1t : x1.toInt = l := by rw [hx1, zI_toInt (by omega) (by omega)]
  have h2t : x2.toInt = e := by rw [hx2, zI_toInt (by omega) (by omega)]
  have t1 := (hp.2 _ _ hgl).1
  have t2 := (hp.2 _ _ hge).1
  have hmy : mmy ml es mn (mn.length + l) e = decide ((evD es l).1 + etk ml (evD es l) + ((plc ml es l - plc ml es e).natAbs : Int) ≤ (evD es e).1) := by
    unfold mmy
    rw [if_neg (by omega), show mn.length + l - mn.length = l by omega]
  rw [hmy] at h1 h0
  refine am_runN vX12_mayFollow 30 _ rfl rfl rfl rfl ?_
  refine And.intro ⟨by omega, by omega⟩ ?_
  refine And.intro ⟨by omega, by omega⟩ ?_
  refine s_mtakes hl hm hp hes hx1 hgl ?_
  refine s_mstandOf hl hm hp hes hx1 hgl ?_
  refine s_mstandOf hl hm hp hes hx2 hge ?_
  refine s_far (a := plc ml es l) (b := plc ml es e) ⟨by omega, by omega⟩ ⟨by omega, by omega⟩ ?_
  rw [h1t, h2t, Int.toNat_natCast, Int.toNat_natCast, t1, t2, zI_add]
  refine And.intro (fun z => ?_) (fun z => ?_)
  · rw [zI_add, zI_toInt (by omega) (by omega), zI_toInt (by omega) (by omega)] at z
    refine And.intro (Or.inl rfl) ?_
    exact h0 (decide_eq_false (by omega))
  · rw [zI_add, zI_toInt (by omega) (by omega), zI_toInt (by omega) (by omega)] at z
    refine And.intro (Or.inr rfl) ?_
    exact h1 (decide_eq_true (by omega))
set_option maxRecDepth 100000 in
theorem s_mayBegin {m e : Nat} {x1 x2 : Int32} (hl : MCsok ml) (hm : MMAt I ml) (hp : MPAt I es) (hes : EVsok ml es) (hmn : MNsok mn) (hM : MMenAt I mn) (hmm : m < mn.length) (hle : e < es.length) (hx1 : x1 = zI m) (hx2 : x2 = zI e)
    (h1 : mmy ml es mn m e = true → Q (some (vI (zI 1))) I Lg R (GM gc)) (h0 : mmy ml es mn m e = false → Q (some (vI (zI 0))) I Lg R (GM gc)) :
    am_Sp Γ (d + 1) 0 0 mX12_mayBegin [vR 12 0, vI x1, vI x2] I Lg R (GM gc) Q := by
  have h24 := hes.1
  have h4 := hmn.1
  have hge := evD_get hle
  obtain ⟨v1, v2, v3, v4, v5, v6⟩ := hes.2 _ _ hge
  have p2 := plc_rng hl hes hle
  have h1t : x1.toInt = m := by rw [hx1, zI_toInt (by omega) (by omega)]
  have h2t : x2.toInt = e := by rw [hx2, zI_toInt (by omega) (by omega)]
  have t2 := (hp.2 _ _ hge).1
  have hg : mn[m]? = some (mn.getD m 0) := by rw [List.getD_eq_getElem?_getD, List.getElem?_eq_getElem hmm]; rfl
  have hb := hmn.2 _ _ hg
  have hh := hM.2 _ _ hg
  have hmy : mmy ml es mn m e = decide (((mn.getD m 0 - plc ml es e).natAbs : Int) ≤ (evD es e).1) := by
    unfold mmy
    rw [if_pos hmm]
  rw [hmy] at h1 h0
  have hfar : ∀ {Q2 : QQ}, Q2 (some (vI (zI ((mn.getD m 0 - plc ml es e).natAbs : Int)))) I Lg R (GM gc) → am_Sp Γ d 0 0 mX12_far [vI (I 146 0 m), vI (zI (plc ml es e))] I Lg R (GM gc) Q2 := fun q => by
    rw [hh]
    exact s_far (a := mn.getD m 0) (b := plc ml es e) ⟨by omega, by omega⟩ ⟨by omega, by omega⟩ q
  refine am_runN vX12_mayBegin 30 _ rfl rfl rfl rfl ?_
  refine And.intro ⟨by omega, by omega⟩ ?_
  refine And.intro ⟨by omega, by omega⟩ ?_
  refine s_mstandOf hl hm hp hes hx2 hge ?_
  rw [h1t, h2t, Int.toNat_natCast, Int.toNat_natCast, t2]
  refine hfar ?_
  refine And.intro (fun z => ?_) (fun z => ?_)
  · rw [zI_toInt (by omega) (by omega), zI_toInt (by omega) (by omega)] at z
    refine And.intro (Or.inl rfl) ?_
    exact h0 (decide_eq_false (by omega))
  · rw [zI_toInt (by omega) (by omega), zI_toInt (by omega) (by omega)] at z
    refine And.intro (Or.inr rfl) ?_
    exact h1 (decide_eq_true (by omega))
end MPREP
