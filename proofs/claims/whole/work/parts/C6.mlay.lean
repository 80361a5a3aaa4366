/-! The reference lays. -/
theorem pow_le_4096 {c k : Nat} (hc : c ≤ 8) (hk : k ≤ 4) : c ^ k ≤ 4096 := Nat.le_trans (Nat.pow_le_pow_left hc k) (Nat.le_trans (Nat.pow_le_pow_right (by omega) hk) (by decide))
theorem zI_pow_mul {c k : Nat} : zI ((c ^ k : Nat) : Int) * zI (c : Int) = zI ((c ^ (k + 1) : Nat) : Int) := by rw [zI_mul, Nat.pow_succ, Int.natCast_mul]
abbrev onw (n k : Nat) : Int := if k + 1 = n then 255 else ((k + 1 : Nat) : Int)
def DgAt (I I0 : II) (c n way m : Nat) : Prop := (∀ k, m ≤ k → k < n → I 132 0 (48 + k) = zI (dgt c n way k : Nat) ∧ I 133 0 (48 + k) = zI (onw n k)) ∧ ∀ v, v < 48 → I 132 0 v = I0 132 0 v ∧ I 133 0 v = I0 133 0 v
set_option maxRecDepth 100000 in
theorem mlay_digits {Γ : AMG} {Q : QQ} {d c n way : Nat} {x1 x2 x3 x4 x5 : Int32} {l8 : Option AV} {I0 : II} {Lg : LJ} {R : RR} {gc : Nat → Nat} (hc1 : 1 ≤ c) (hc8 : c ≤ 8) (hn : n ≤ 4) (hway : way < 4096) (hx1 : x1 = zI n) (hx2 : x2 = zI c)
    (h : ∀ (x6 x7 : Int32) (I' : II), FrI (V0 [132, 133]) I0 I' → DgAt I' I0 c n way 0 → am_J Γ mX12_lay Q d 0 0 157 [some (vR 12 0), some (vI x1), some (vI x2), some (vI x3), some (vI x4), some (vI x5), some (vI x6), some (vI x7), l8] [] I' Lg R (GM gc)) :
    ∀ (m : Nat) (x6 x7 : Int32) (I1 : II), m ≤ n → x7 = zI ((m : Int) - 1) → x6 = zI (way / c ^ (n - m) : Nat) → FrI (V0 [132, 133]) I0 I1 → DgAt I1 I0 c n way m → am_J Γ mX12_lay Q d 0 0 98 [some (vR 12 0), some (vI x1), some (vI x2), some (vI x3), some (vI x4), some (vI x5), some (vI x6), some (vI x7), l8] [] I1 Lg R (GM gc) := by
  intro m
  induction m with
  | zero =>
    intro x6 x7 I1 hm hx7 hx6 f1 dg
    refine am_goN vX12_lay 2 ?_
    refine And.intro (fun _ => ?_) (fun c1 => ?_)
    · exact h x6 x7 I1 f1 dg
    · rw [hx7, zI_toInt (by omega) (by omega)] at c1
      omega
  | succ m ih =>
    intro x6 x7 I1 hm hx7 hx6 f1 dg
    have h7 : x7.toInt = m := by rw [hx7, zI_toInt (by omega) (by omega)]; omega
    have h2 : x2.toInt = c := by rw [hx2, zI_toInt (by omega) (by omega)]
    have hdl : way / c ^ (n - (m + 1)) ≤ way := Nat.div_le_self _ _
    have hnn : (0 : Int) ≤ ((way / c ^ (n - (m + 1)) : Nat) : Int) := Int.natCast_nonneg _
    have hmod : way / c ^ (n - (m + 1)) % c < c := Nat.mod_lt _ (by omega)
    have hdg : way / c ^ (n - (m + 1)) % c = dgt c n way m := by unfold dgt; rw [show n - 1 - m = n - (m + 1) by omega]
    have hdv : way / c ^ (n - (m + 1)) / c = way / c ^ (n - m) := by
      rw [Nat.div_div_eq_div_mul, ← Nat.pow_succ, show (n - (m + 1)).succ = n - m by omega]
    have hix : (zI 48 + x7).toInt = ((48 + m : Nat) : Int) := by rw [hx7, zI_add, zI_toInt (by omega) (by omega)]; omega
    have hixn : (zI 48 + x7).toInt.toNat = 48 + m := by omega
    refine am_goN vX12_lay 2 ?_
    refine And.intro (fun c1 => ?_) (fun _ => ?_)
    · omega
    refine am_goN vX12_lay 9 ?_
    refine And.intro (by omega) ?_
    refine And.intro ⟨by omega, by omega⟩ ?_
    rw [hixn]
    refine fun y1 ey1 I2 e2 => ?_
    have hy1 : y1 = zI (dgt c n way m : Nat) := by
      rw [ey1, hx6, hx2, zI_remN (by omega) (by omega) (by omega) (by omega), ← hdg]
      rfl
    have k144 : ∀ y : Int32, y = zI (onw n m) → am_J Γ mX12_lay Q d 0 0 144 [some (vR 12 0), some (vI x1), some (vI x2), some (vI x3), some (vI x4), some (vI x5), some (vI x6), some (vI x7), l8] [vI y, vI (zI 48 + x7), vR 70 0] I2 Lg R (GM gc) := by
      intro y hy
      refine am_goN vX12_lay 7 ?_
      refine And.intro ⟨by omega, by omega⟩ ?_
      rw [hixn]
      refine fun y2 ey2 I3 e3 => ?_
      refine And.intro (by omega) ?_
      refine fun x6' ex6 x7' ex7 => ?_
      refine ih x6' x7' I3 (by omega) (by rw [ex7, hx7, zI_add]; congr 1; omega) ?_ ?_ ?_
      · rw [ex6, hx6, hx2, zI_divN (by omega) (by omega) (by omega) (by omega), ← hdv]
        rfl
      · rw [e3, e2]
        exact (f1.up rfl).up rfl
      · refine ⟨fun k hk1 hk2 => ?_, fun v hv => ?_⟩
        · by_cases q : k = m
          · subst q
            refine ⟨?_, ?_⟩
            · rw [e3, up3_v _ (by decide), e2, up3_s, hy1]
            · rw [e3, up3_s, ey2, hy]
          · obtain ⟨q1, q2⟩ := dg.1 k (by omega) hk2
            refine ⟨?_, ?_⟩
            · rw [e3, up3_v _ (by decide), e2, up3_j _ (by omega), q1]
            · rw [e3, up3_j _ (by omega), e2, up3_v _ (by decide), q2]
        · obtain ⟨q1, q2⟩ := dg.2 v hv
          refine ⟨?_, ?_⟩
          · rw [e3, up3_v _ (by decide), e2, up3_j _ (by omega), q1]
          · rw [e3, up3_j _ (by omega), e2, up3_v _ (by decide), q2]
    have h1m : (x1 - zI 1).toInt = (n : Int) - 1 := by rw [hx1, zI_sub, zI_toInt (by omega) (by omega)]
    refine am_goN vX12_lay 10 ?_
    refine And.intro (fun c1 => ?_) (fun c1 => ?_)
    · rw [h7, h1m] at c1
      refine am_goN vX12_lay 3 ?_
      refine k144 (x7 + zI 1) ?_
      rw [hx7, zI_add]
      congr 1
      unfold onw
      rw [if_neg (by omega)]
      omega
    · rw [h7, h1m] at c1
      refine am_goN vX12_lay 2 ?_
      refine k144 (zI 255) ?_
      unfold onw
      rw [if_pos (by omega)]
set_option maxRecDepth 100000 in
theorem mlay_copy {Γ : AMG} {Q : QQ} {d n : Nat} {x1 x2 x3 x4 x5 : Int32} {s : List Nat} {I0 : II} {Lg : LJ} {R : RR} {gc : Nat → Nat} (hn : n ≤ 4) (hx1 : x1 = zI n) (hs : ∀ k, k < n → I0 132 0 (48 + k) = zI (s.getD k 0 : Nat))
    (h : ∀ (l8 : Option AV) (I' : II), FrI (V0 [176]) I0 I' → (∀ k, k < n → I' 176 0 k = zI (s.getD k 0 : Nat)) → am_J Γ mX12_lay Q d 0 0 221 [some (vR 12 0), some (vI x1), some (vI x2), some (vI x3), some (vI x4), some (vI x5), none, none, l8] [] I' Lg R (GM gc)) :
    ∀ (m k : Nat) (x8 : Int32) (I1 : II), k + m = n → x8 = zI k → FrI (V0 [176]) I0 I1 → (∀ j, j < k → I1 176 0 j = zI (s.getD j 0 : Nat)) → am_J Γ mX12_lay Q d 0 0 192 [some (vR 12 0), some (vI x1), some (vI x2), some (vI x3), some (vI x4), some (vI x5), none, none, some (vI x8)] [] I1 Lg R (GM gc) := by
  intro m
  induction m with
  | zero =>
    intro k x8 I1 hm hx8 f1 hl
    refine am_goN vX12_lay 3 ?_
    refine And.intro (fun _ => ?_) (fun c1 => ?_)
    · exact h _ I1 f1 (fun j hj => hl j (by omega))
    · rw [hx8, hx1, zI_toInt (by omega) (by omega), zI_toInt (by omega) (by omega)] at c1
      omega
  | succ m ih =>
    intro k x8 I1 hm hx8 f1 hl
    have h8 : x8.toInt = k := by rw [hx8, zI_toInt (by omega) (by omega)]
    have h8n : x8.toInt.toNat = k := by omega
    have hix : (zI 48 + x8).toInt = ((48 + k : Nat) : Int) := by rw [hx8, zI_add, zI_toInt (by omega) (by omega)]; omega
    have hixn : (zI 48 + x8).toInt.toNat = 48 + k := by omega
    refine am_goN vX12_lay 3 ?_
    refine And.intro (fun c1 => ?_) (fun _ => ?_)
    · rw [h8, hx1, zI_toInt (by omega) (by omega)] at c1
      omega
    refine am_goN vX12_lay 12 ?_
    refine And.intro ⟨by omega, by omega⟩ ?_
    refine And.intro ⟨by omega, by omega⟩ ?_
    rw [hixn, h8n]
    refine fun y1 ey1 I2 e2 x8' ex8 => ?_
    refine ih (k + 1) x8' I2 (by omega) (by rw [ex8, hx8, zI_add]; congr 1) (by rw [e2]; exact f1.up rfl) (fun j hj => ?_)
    rw [e2]
    by_cases q : j = k
    · subst q
      rw [up3_s, ey1, f1 _ _ rfl]
      exact hs j (by omega)
    · rw [up3_j _ q]
      exact hl j (by omega)
theorem gb_0 (p : Nat) : gb (zI 0) p = 0 := by
  unfold gb
  rw [show (zI 0).toBitVec.toNat = 0 from rfl, Nat.zero_div]
/-- a way that lies on the fifth run -/
theorem dg_run {I I0 : II} {bd : List BD} {n way : Nat} (hst : MStockAt I bd) (hbd : BDsok bd) (h0 : 0 < bd.length) (hdg : DgAt I I0 (min bd.length 8) n way 0) : MRunG I 4 (zI 0) (rnL bd (wayL (min bd.length 8) n way)) := by
  intro p e he
  have hp : p < n := by
    have := (List.getElem?_eq_some_iff.mp he).1
    rwa [rnL_len, wayL_len] at this
  rw [rnL_get (by rw [wayL_len]; exact hp), wayL_len] at he
  cases he
  obtain ⟨q1, q2⟩ := hdg.1 p (by omega) hp
  have hlt : dgt (min bd.length 8) n way p < min bd.length 8 := Nat.mod_lt _ (by omega)
  have hbl := hbd.1
  refine ⟨⟨dgt (min bd.length 8) n way p, by omega, q1, hst.2.1 _ _ ?_⟩, ?_⟩
  · rw [wayL_get hp]
    have := bdA_get (bd := bd) (k := ((dgt (min bd.length 8) n way p : Nat) : Int)) (by omega) (by omega)
    rwa [Int.toNat_natCast] at this
  · rw [if_pos (gb_0 p)]
    exact q2

abbrev mlv6 : List Nat := [132, 133, 176, 50, 51, 52, 53, 54, 55, 57, 56, 136, 137, 138]
/-- what has changed behind some ways -/
def LMI (I I' : II) : Prop := FrI (V0 mlv6) I I' ∧ ∀ v, v < 48 → I' 132 0 v = I 132 0 v ∧ I' 133 0 v = I 133 0 v
set_option maxRecDepth 100000 in
theorem mlay_ways {Γ : AMG} {Q : QQ} {d n nW : Nat} {W : Nat → Int} {x1 x2 x3 : Int32} {I : II} {Lg : LJ} {R : RR} {gc : Nat → Nat} {bd : List BD} {q0 : List Nat} (hbd : BDsok bd) (hb0 : 0 < bd.length) (hst : MStockAt I bd) (hless : ∀ v, I 135 0 v = zI 0) (hn1 : 1 ≤ n) (hn : n ≤ 4) (hnW : nW ≤ 10) (hw : I 80 0 0 = zI nW) (hwd : ∀ k, k < nW → I 175 0 k = zI (W k)) (hW : ∀ k, 0 ≤ W k ∧ W k ≤ 65535) (hx1 : x1 = zI n) (hx2 : x2 = zI (min bd.length 8 : Nat)) (hx3 : x3 = zI (min bd.length 8 ^ n : Nat))
    (h : ∀ I' : II, LMI I I' → (∀ k, k < n → I' 176 0 k = zI ((layA bd nW W n).2.getD k 0 : Nat)) → (layA bd nW W n).2.length = n → ∀ I2 : II, I2 = up3 I' 81 0 0 x1 → Q (some (vI (zI (layA bd nW W n).1))) I2 Lg R (GM gc)) :
    ∀ (m way : Nat) (x4 x5 : Int32) (l6 l7 l8 : Option AV) (I1 : II), way + m = min bd.length 8 ^ n → x5 = zI way → x4 = zI (layM bd nW W n q0 way).1 → LMI I I1 → (0 < way → ∀ k, k < n → I1 176 0 k = zI ((layM bd nW W n q0 way).2.getD k 0 : Nat)) → am_J Γ mX12_lay Q (d + 3) 0 0 83 [some (vR 12 0), some (vI x1), some (vI x2), some (vI x3), some (vI x4), some (vI x5), l6, l7, l8] [] I1 Lg R (GM gc) := by
  have hbl := hbd.1
  have hc0 : 0 < min bd.length 8 := by omega
  have hp1 : 0 < min bd.length 8 ^ n := Nat.pow_pos hc0
  have hp2 := pow_le_4096 (c := min bd.length 8) (k := n) (by omega) hn
  have h3 : x3.toInt = (min bd.length 8 ^ n : Nat) := by rw [hx3, zI_toInt (by omega) (by omega)]
  intro m
  induction m with
  | zero =>
    intro way x4 x5 l6 l7 l8 I1 hm hx5 hx4 f1 hl
    have hway : way = min bd.length 8 ^ n := by omega
    have h5 : x5.toInt = way := by rw [hx5, zI_toInt (by omega) (by omega)]
    have hfin : layM bd nW W n q0 way = layA bd nW W n := by rw [hway]; exact layM_eq hnW hn hb0 (fun j b hj => hbd.2 j b hj) hW
    have hlen : (layA bd nW W n).2.length = n := by
      rw [← hfin]
      obtain ⟨w', rfl⟩ : ∃ w', way = w' + 1 := ⟨way - 1, by omega⟩
      exact layM_len w'
    refine am_J.er [true, true, true, true, true, true, false, false, false] ?_
    refine am_goN vX12_lay 3 ?_
    refine And.intro (fun _ => ?_) (fun c1 => ?_)
    · refine am_goN vX12_lay 3 ?_
      refine fun y1 ey1 I2 e2 => ?_
      refine am_goN vX12_lay 3 ?_
      rw [hx4, hfin]
      refine h I1 f1 (fun k hk => ?_) hlen I2 (by rw [e2, ey1])
      rw [← hfin]
      exact hl (by omega) k hk
    · rw [h5, h3] at c1
      omega
  | succ m ih =>
    intro way x4 x5 l6 l7 l8 I1 hm hx5 hx4 f1 hl
    have h5 : x5.toInt = way := by rw [hx5, zI_toInt (by omega) (by omega)]
    have hrg := layM_rng (bd := bd) (W := W) (n := n) (q0 := q0) hnW hn (fun j b hj => hbd.2 j b hj) hW way
    have h4 : x4.toInt = (layM bd nW W n q0 way).1 := by rw [hx4, zI_toInt (by omega) (by omega)]
    refine am_J.er [true, true, true, true, true, true, false, false, false] ?_
    refine am_goN vX12_lay 3 ?_
    refine And.intro (fun c1 => ?_) (fun _ => ?_)
    · rw [h5, h3] at c1
      omega
    refine am_goN vX12_lay 6 ?_
    refine fun x6 ex6 x7 ex7 => ?_
    refine mlay_digits (c := min bd.length 8) (n := n) (way := way) (I0 := I1) (by omega) (by omega) hn (by omega) hx1 hx2 (fun x6' x7' I2 f2 dg => ?_) n x6 x7 I1 (Nat.le_refl _) (by rw [ex7, hx1, zI_sub]) ?_ FrI.rf ⟨fun k hk1 hk2 => absurd hk1 (by omega), fun v _ => ⟨rfl, rfl⟩⟩
    · have f02 : FrI (V0 mlv6) I I2 := f1.1.tr (f2.mono (fun v i q => V0_sub (by decide) q))
      have st2 : MStockAt I2 bd := hst.fr f02 (fun v hv => V0_outI (by decide) v hv 0)
      have run2 := dg_run st2 hbd hb0 dg
      have hwl : (wayL (min bd.length 8) n way).length = n := wayL_len
      have hin : ∀ c ∈ wayL (min bd.length 8) n way, c < bd.length := fun c hc => Nat.lt_of_lt_of_le (wayL_lt hc0 c hc) (by omega)
      have hrok := rnL_ok hbd (by omega) hin
      refine am_goN vX12_lay 4 ?_
      refine s_mfollow (ls := nols) hrok (by rw [rnL_len, hwl]; omega) run2 nols_ok (fun p hp => by rw [f02 _ _ rfl]; exact hless _) (by omega) rfl (fun I3 st' f3 mf => ?_)
      have f03 : FrI (V0 mlv6) I I3 := f02.tr (f3.mono (fun v i q => V0_sub (by decide) q))
      obtain ⟨-, -, -, kn3, k3⟩ := mf
      have hok9 := foll_ok (g := zI 0) hrok nols_ok 2000 1 FS0 (by omega) (FS0_ok hrok (by rw [rnL_len, hwl]; omega))
      have hee := errS_fall (nW := nW) (W := W) (g := zI 0) hbd (by omega) (by omega) hin
      have hr1 := errS_le (nW := nW) hnW (fun j b hj => hbd.2 j b hj) hW (wayL (min bd.length 8) n way) (0, 0, 0, 0, 0, 0) w0_ok (by rw [hwl]; show (0 : Int) + _ ≤ 100; omega) (by rw [hwl]; show (0 : Int) + 65535 * _ ≤ _; omega)
      have hr2 := errS_ge (nW := nW) (bds := bd) (fun j b hj => hbd.2 j b hj) hW (wayL (min bd.length 8) n way) (0, 0, 0, 0, 0, 0) w0_ok (by rw [hwl]; show (0 : Int) + _ ≤ 100; omega) (by rw [hwl]; show (0 : Int) + 65535 * _ ≤ _; omega)
      rw [hwl] at hr1 hr2
      have e0 : ((0, 0, 0, 0, 0, 0) : CRW).2.2.2.2.2 = 0 := rfl
      refine am_goN vX12_lay 3 ?_
      refine s_err hnW (by rw [f03 _ _ rfl]; exact hw) (fun k hk => by rw [f03 _ _ rfl]; exact hwd k hk) hW kn3 hok9.2.1 k3 fall9_tk ?_
      rw [hee]
      refine fun x7 ex7 => ?_
      have h7 : x7.toInt = errS bd nW W (wayL (min bd.length 8) n way) (0, 0, 0, 0, 0, 0) := by rw [ex7, zI_toInt (by omega) (by omega)]
      have hs := layM_s (bd := bd) (nW := nW) (W := W) (n := n) (q0 := q0) (k := way)
      have k3' : ∀ v, v < 48 → I3 132 0 v = I 132 0 v ∧ I3 133 0 v = I 133 0 v := fun v hv => by
        obtain ⟨q1, q2⟩ := dg.2 v hv
        obtain ⟨q3, q4⟩ := f1.2 v hv
        rw [f3 _ _ rfl, f3 _ _ rfl, q1, q2, q3, q4]
        exact ⟨rfl, rfl⟩
      have stay : updM (layM bd nW W n q0 way) (errS bd nW W (wayL (min bd.length 8) n way) (0, 0, 0, 0, 0, 0)) (wayL (min bd.length 8) n way) = layM bd nW W n q0 way → 0 < way → am_J Γ mX12_lay Q (d + 3) 0 0 221 [some (vR 12 0), some (vI x1), some (vI x2), some (vI x3), some (vI x4), some (vI x5), none, none, none] [] I3 Lg R (GM gc) := fun he hwp => by
        refine am_goN vX12_lay 2 ?_
        refine fun y5 ey5 => ?_
        refine ih (way + 1) x4 y5 _ _ _ I3 (by omega) (by rw [ey5, hx5, zI_add]; congr 1) (by rw [hs, he]; exact hx4) ⟨f03, k3'⟩ (fun _ k hk => ?_)
        rw [hs, he, f3 _ _ rfl, f2 _ _ rfl]
        exact hl hwp k hk
      have better : updM (layM bd nW W n q0 way) (errS bd nW W (wayL (min bd.length 8) n way) (0, 0, 0, 0, 0, 0)) (wayL (min bd.length 8) n way) = (errS bd nW W (wayL (min bd.length 8) n way) (0, 0, 0, 0, 0, 0), wayL (min bd.length 8) n way) → am_J Γ mX12_lay Q (d + 3) 0 0 185 [some (vR 12 0), some (vI x1), some (vI x2), some (vI x3), some (vI x4), some (vI x5), none, some (vI x7), none] [] I3 Lg R (GM gc) := fun he => by
        refine am_goN vX12_lay 4 ?_
        refine fun y4 ey4 x8 ex8 => ?_
        refine am_J.er [true, true, true, true, true, true, false, false, true] ?_
        refine mlay_copy (n := n) (s := wayL (min bd.length 8) n way) (I0 := I3) hn hx1 (fun k hk => ?_) (fun l8 I4 f4 hl4 => ?_) n 0 x8 I3 (by omega) ex8 FrI.rf (fun j hj => absurd hj (by omega))
        · rw [f3 _ _ rfl, wayL_get hk]
          exact (dg.1 k (by omega) hk).1
        · refine am_J.er [true, true, true, true, true, true, false, false, false] ?_
          refine am_goN vX12_lay 2 ?_
          refine fun y5 ey5 => ?_
          refine ih (way + 1) y4 y5 _ _ _ I4 (by omega) (by rw [ey5, hx5, zI_add]; congr 1) (by rw [hs, he, ey4, ex7]) ⟨f03.tr (f4.mono (fun v i q => V0_sub (by decide) q)), fun v hv => ?_⟩ (fun _ k hk => ?_)
          · rw [f4 _ _ rfl, f4 _ _ rfl]
            exact k3' v hv
          · rw [hs, he]
            exact hl4 k hk
      refine am_J.er [true, true, true, true, true, true, false, true, false] ?_
      refine am_goN vX12_lay 3 ?_
      have hm1 : (zI (-1)).toInt = -1 := zI_toInt (by omega) (by omega)
      refine And.intro (fun c1 => ?_) (fun c1 => ?_)
      · rw [h4, hm1] at c1
        refine better ?_
        unfold updM
        rw [if_neg (fun z => z.1 c1)]
      rw [h4, hm1] at c1
      refine am_goN vX12_lay 3 ?_
      refine And.intro (fun c2 => ?_) (fun c2 => ?_)
      · rw [h7, h4] at c2
        refine better ?_
        unfold updM
        rw [if_neg (fun z => by have := z.2; omega)]
      · rw [h7, h4] at c2
        refine am_J.er [true, true, true, true, true, true, false, false, false] ?_
        refine am_goN vX12_lay 1 ?_
        refine stay ?_ ?_
        · unfold updM
          rw [if_pos ⟨c1, c2⟩]
        · by_cases q : way = 0
          · subst q
            exact absurd rfl c1
          · omega
    · rw [ex6, hx5, Nat.sub_self, Nat.pow_zero, Nat.div_one]
