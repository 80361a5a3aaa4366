/-! fillings in the reference: the whole. -/
set_option maxRecDepth 100000 in
theorem fillm_rest {Γ : AMG} {Q : QQ} {d kb : Nat} {x1 x2 x4 : Int32} {I : II} {Lg : LJ} {R : RR} {gc : Nat → Nat} {l : List MC} {es T : List EV} {mc : MC} {f : Nat → Int} (hl : MCsok l) (hm : MMAt I l) (hp : MPAt I es) (hes : EVsok l es) (hT : TAt I es T) (hTok : ∀ (k : Nat) (e : EV), T[k]? = some e → EVok l e) (hTl : T.length ≤ 24) (hx1 : x1 = zI kb) (hkb : l[kb]? = some mc) (hF0 : 0 ≤ mc.2.2.1) (hF1 : mc.2.2.1 ≤ 99) (hf : ∀ k, -1 ≤ f k ∧ f k ≤ (24 : Int)) (hfa : FAt I f T.length) {c0 : Int}
    (h : Q (some (vI (zI (if frest mc.2.2.1 T f T.length 0 c0 = -1 then -2 else frest mc.2.2.1 T f T.length 0 c0)))) I Lg R (GM gc)) :
    ∀ (i : Nat) (x3 x5 x6 : Int32) (l7 : Option AV) (s c : Int), i ≤ T.length → x6 = zI ((i : Int) - 1) → x5 = zI s → 0 ≤ s → s ≤ 9999 * ((T.length : Int) - i) → x3 = zI c → -1 ≤ c → c ≤ 24 → frest mc.2.2.1 T f i s c = frest mc.2.2.1 T f T.length 0 c0 →
      am_J Γ mX12_fillings Q (d + 2) 0 0 301 [some (vR 12 0), some (vI x1), some (vI x2), some (vI x3), some (vI x4), some (vI x5), some (vI x6), l7] [] I Lg R (GM gc) := by
  have hkl := (List.getElem?_eq_some_iff.mp hkb).1
  have hll := hl.1
  have hxt1 : x1.toInt = kb := by rw [hx1, zI_toInt (by omega) (by omega)]
  have hxn1 : x1.toInt.toNat = kb := by rw [hxt1]; omega
  intro i
  induction i with
  | zero =>
    intro x3 x5 x6 l7 s c hi h6 h5 hs0 hs1 h3 hc0 hc1 hq
    have hq : c = frest mc.2.2.1 T f T.length 0 c0 := hq
    rw [← hq] at h
    refine am_go vX12_fillings 60 ?_
    refine And.intro (fun c2 => ?_) (fun c2 => ?_)
    · refine And.intro (fun c3 => ?_) (fun c3 => ?_)
      · rw [h3, zI_toInt (by omega) (by omega), zI_toInt (by omega) (by omega)] at c3
        rw [if_neg c3] at h
        rw [h3]
        exact h
      · rw [h3, zI_toInt (by omega) (by omega), zI_toInt (by omega) (by omega)] at c3
        rw [if_pos (by omega)] at h
        exact h
    · rw [h6, zI_toInt (by omega) (by omega)] at c2
      omega
  | succ i ih =>
    intro x3 x5 x6 l7 s c hi h6 h5 hs0 hs1 h3 hc0 hc1 hq
    have hq : frest mc.2.2.1 T f i (s + fnum T i) (if s + fnum T i ≤ mc.2.2.1 ∧ f i ≠ -1 ∧ (c = -1 ∨ f i < c) then f i else c) = frest mc.2.2.1 T f T.length 0 c0 := hq
    have hxt6 : x6.toInt = i := by rw [h6, zI_toInt (by omega) (by omega)]; omega
    have hxn6 : x6.toInt.toNat = i := by rw [hxt6]; omega
    have he : T[i]? = some T[i] := List.getElem?_eq_getElem (by omega)
    generalize T[i] = e at he
    obtain ⟨ix, hix, ti1, ti2, ti3, ti4, -⟩ := mnum hp hT hes he
    have hnr := fnum_rng hTok i
    have hne := fnum_e he
    have hfi := hfa i (by omega)
    have hfr0 := hf i
    have hN : I 156 0 ix = zI (fnum T i) := by rw [ti4, hne]
    have hFF : I 144 0 kb = zI mc.2.2.1 := (hm.2 kb mc hkb).2.2.1
    refine am_goN vX12_fillings 80 ?_
    refine And.intro (fun c2 => ?_) (fun c2 => ?_)
    · rw [hxt6] at c2
      omega
    refine And.intro ⟨by omega, by omega⟩ ?_
    rw [hxn6]
    refine And.intro ⟨by rw [ti2]; omega, by rw [ti2]; omega⟩ ?_
    rw [ti2, Int.toNat_natCast, hN]
    refine fun x5' ex5 => ?_
    have h5' : x5' = zI (s + fnum T i) := by rw [ex5, h5, zI_add]
    have go : ∀ (c' : Int) (x3' x6' : Int32), x6' = x6 + zI (-1) → x3' = zI c' → -1 ≤ c' → c' ≤ 24 → (if s + fnum T i ≤ mc.2.2.1 ∧ f i ≠ -1 ∧ (c = -1 ∨ f i < c) then f i else c) = c' → am_J Γ mX12_fillings Q (d + 2) 0 0 301 [some (vR 12 0), some (vI x1), some (vI x2), some (vI x3'), some (vI x4), some (vI x5'), some (vI x6'), l7] [] I Lg R (GM gc) := by
      intro c' x3' x6' ex6 ex3 hc0' hc1' hcc
      rw [hcc] at hq
      exact ih x3' x5' x6' l7 (s + fnum T i) c' (by omega) (by rw [ex6, h6, zI_add]; congr 1; omega) h5' (by omega) (by omega) ex3 hc0' hc1' hq
    refine And.intro ⟨by omega, by omega⟩ ?_
    refine And.intro (fun c3 => ?_) (fun c3 => ?_)
    · rw [h5', hxn1, hFF, zI_toInt (by omega) (by omega), zI_toInt (by omega) (by omega)] at c3
      refine fun x6' ex6 => ?_
      exact go c x3 x6' ex6 h3 hc0 hc1 (if_neg (by omega))
    rw [h5', hxn1, hFF, zI_toInt (by omega) (by omega), zI_toInt (by omega) (by omega)] at c3
    refine And.intro ⟨by omega, by omega⟩ ?_
    refine And.intro (fun c4 => ?_) (fun c4 => ?_)
    · rw [hxn6, hfi, zI_toInt (by omega) (by omega), zI_toInt (by omega) (by omega)] at c4
      refine fun x6' ex6 => ?_
      exact go c x3 x6' ex6 h3 hc0 hc1 (if_neg (by omega))
    rw [hxn6, hfi, zI_toInt (by omega) (by omega), zI_toInt (by omega) (by omega)] at c4
    refine And.intro (fun c5 => ?_) (fun c5 => ?_)
    · rw [h3, zI_toInt (by omega) (by omega), zI_toInt (by omega) (by omega)] at c5
      refine And.intro ⟨by omega, by omega⟩ ?_
      refine fun x3' ex3 x6' ex6 => ?_
      rw [hxn6, hfi] at ex3
      exact go (f i) x3' x6' ex6 ex3 (by omega) (by omega) (if_pos ⟨by omega, c4, Or.inl c5⟩)
    rw [h3, zI_toInt (by omega) (by omega), zI_toInt (by omega) (by omega)] at c5
    refine And.intro ⟨by omega, by omega⟩ ?_
    refine And.intro (fun c6 => ?_) (fun c6 => ?_)
    · rw [hxn6, hfi, h3, zI_toInt (by omega) (by omega), zI_toInt (by omega) (by omega)] at c6
      refine fun x6' ex6 => ?_
      exact go c x3 x6' ex6 h3 hc0 hc1 (if_neg (by omega))
    rw [hxn6, hfi, h3, zI_toInt (by omega) (by omega), zI_toInt (by omega) (by omega)] at c6
    refine And.intro ⟨by omega, by omega⟩ ?_
    refine fun x3' ex3 x6' ex6 => ?_
    rw [hxn6, hfi] at ex3
    exact go (f i) x3' x6' ex6 ex3 (by omega) (by omega) (if_pos ⟨by omega, c4, Or.inr (by omega)⟩)
set_option maxRecDepth 100000 in
theorem fillm_out {Γ : AMG} {Q : QQ} {d kb : Nat} {x1 x2 x3 : Int32} {I : II} {Lg : LJ} {R : RR} {gc : Nat → Nat} {l : List MC} {es T : List EV} {mc : MC} (hl : MCsok l) (hm : MMAt I l) (hp : MPAt I es) (hes : EVsok l es) (hT : TAt I es T) (hTok : ∀ (k : Nat) (e : EV), T[k]? = some e → EVok l e) (hTl : T.length ≤ 24) (hx1 : x1 = zI kb) (hkb : l[kb]? = some mc) (hF0 : 0 ≤ mc.2.2.1) (hF1 : mc.2.2.1 ≤ 99) (hG0 : 0 ≤ mc.2.2.2) (hG1 : mc.2.2.2 ≤ 200) (hx2 : x2 = zI T.length)
    (h : ∀ (x4 : Int32) (l5 l6 l7 : Option AV) (I' : II), FrI (V0 [173]) I I' → FAt I' (fdn l mc.2.2.1 mc.2.2.2 T T.length) T.length → am_J Γ mX12_fillings Q (d + 2) 0 0 293 [some (vR 12 0), some (vI x1), some (vI x2), some (vI x3), some (vI x4), l5, l6, l7] [] I' Lg R (GM gc)) :
    ∀ (m j : Nat) (x4 x5 : Int32) (l6 l7 : Option AV) (I1 : II), j + m = T.length → x5 = zI j → x4 = zI (ovr l T j) → FrI (V0 [173]) I I1 → FAt I1 (fdn l mc.2.2.1 mc.2.2.2 T j) j →
      am_J Γ mX12_fillings Q (d + 2) 0 0 86 [some (vR 12 0), some (vI x1), some (vI x2), some (vI x3), some (vI x4), some (vI x5), l6, l7] [] I1 Lg R (GM gc) := by
  have hkl := (List.getElem?_eq_some_iff.mp hkb).1
  have hll := hl.1
  have hxt1 : x1.toInt = kb := by rw [hx1, zI_toInt (by omega) (by omega)]
  have hxn1 : x1.toInt.toNat = kb := by rw [hxt1]; omega
  have hxt2 : x2.toInt = T.length := by rw [hx2, zI_toInt (by omega) (by omega)]
  intro m
  induction m with
  | zero =>
    intro j x4 x5 l6 l7 I1 hj h5 h4 hfr hfa
    have hjj : j = T.length := by omega
    subst hjj
    refine am_go vX12_fillings 3 ?_
    refine And.intro (fun c => ?_) (fun c => ?_)
    · exact h x4 _ l6 l7 I1 hfr hfa
    · rw [h5, hxt2, zI_toInt (by omega) (by omega)] at c
      omega
  | succ m ih =>
    intro j x4 x5 l6 l7 I1 hj h5 h4 hfr hfa
    have hxt5 : x5.toInt = j := by rw [h5, zI_toInt (by omega) (by omega)]
    have hxn5 : x5.toInt.toNat = j := by rw [hxt5]; omega
    have he : T[j]? = some T[j] := List.getElem?_eq_getElem (by omega)
    generalize T[j] = e at he
    obtain ⟨ix, hix, ti1, ti2, ti3, ti4, ti5⟩ := mnum hp hT hes he
    have hev := hTok j e he
    have htk := etk_rng hev
    have hov := ovr_rng hTok j
    have hos : ovr l T (j + 1) = max (ovr l T j) (e.1 + etk l e) := by
      show max (ovr l T j) (match T[j]? with | some e => e.1 + etk l e | none => 0) = _
      rw [he]
    obtain ⟨e1, e2, -⟩ := id hev
    have hft : ftik T j = e.1 := by unfold ftik; rw [he]
    have hf := fdn_rng (l := l) (F := mc.2.2.1) (G := mc.2.2.2) (T := T) j
    have hGG : I 145 0 kb = zI mc.2.2.2 := (hm.2 kb mc hkb).2.2.2
    -- behind the value of the table
    have k243 : ∀ (l6 l7 : Option AV) (I2 : II), FrI (V0 [173]) I I2 → FAt I2 (fdn l mc.2.2.1 mc.2.2.2 T j) j → I2 173 0 j = zI (fval l mc.2.2.1 mc.2.2.2 T j (fdn l mc.2.2.1 mc.2.2.2 T j)) → am_J Γ mX12_fillings Q (d + 2) 0 0 243 [some (vR 12 0), some (vI x1), some (vI x2), some (vI x3), some (vI x4), some (vI x5), l6, l7] [] I2 Lg R (GM gc) := by
      intro l6 l7 I2 hfr2 hfa2 hfj2
      have hfa3 : FAt I2 (fdn l mc.2.2.1 mc.2.2.2 T (j + 1)) (j + 1) := by
        intro k hk
        show I2 173 0 k = zI (if k = j then fval l mc.2.2.1 mc.2.2.2 T j (fdn l mc.2.2.1 mc.2.2.2 T j) else fdn l mc.2.2.1 mc.2.2.2 T j k)
        by_cases hkj : k = j
        · rw [if_pos hkj, hkj]; exact hfj2
        · rw [if_neg hkj]; exact hfa2 k (by omega)
      have hm2 : MMAt I2 l := hm.fr hfr2 (V0_out (by decide))
      have hp2 : MPAt I2 es := hp.fr hfr2 (V0_out (by decide))
      have t1 : I2 174 0 j = zI ix := by rw [hfr2 _ _ rfl]; exact ti1
      have t3 : I2 154 0 ix = zI e.1 := by rw [hfr2 _ _ rfl]; exact ti3
      refine am_goN vX12_fillings 60 ?_
      refine And.intro ⟨by omega, by omega⟩ ?_
      rw [hxn5, t1]
      refine fun x6 ex6 => ?_
      have hx6t : x6.toInt = ix := by rw [ex6, zI_toInt (by omega) (by omega)]
      refine And.intro ⟨by omega, by omega⟩ ?_
      refine s_mtakes hl hm2 hp2 hes ex6 ti5 ?_
      have hs : (I2 154 0 x6.toInt.toNat + zI (etk l e)) = zI (e.1 + etk l e) := by rw [hx6t, Int.toNat_natCast, t3, zI_add]
      refine And.intro (fun c => ?_) (fun c => ?_)
      · rw [hs, h4, zI_toInt (by omega) (by omega), zI_toInt (by omega) (by omega)] at c
        refine fun x5' ex5 => ?_
        exact ih (j + 1) x4 x5' _ _ I2 (by omega) (by rw [ex5, h5, zI_add]; congr 1) (by rw [hos, Int.max_eq_left (by omega)]; exact h4) hfr2 hfa3
      · rw [hs, h4, zI_toInt (by omega) (by omega), zI_toInt (by omega) (by omega)] at c
        refine And.intro ⟨by omega, by omega⟩ ?_
        refine s_mtakes hl hm2 hp2 hes ex6 ti5 ?_
        refine fun x4' ex4 x5' ex5 => ?_
        exact ih (j + 1) x4' x5' _ _ I2 (by omega) (by rw [ex5, h5, zI_add]; congr 1) (by rw [ex4, hs, hos, Int.max_eq_right (by omega)]) hfr2 hfa3
    have k109 : ∀ (l6 l7 : Option AV) (I2 : II) (y : Int32), I2 = up3 I1 173 0 j y → y = zI (if j = 0 then 0 else -1) → am_J Γ mX12_fillings Q (d + 2) 0 0 109 [some (vR 12 0), some (vI x1), some (vI x2), some (vI x3), some (vI x4), some (vI x5), l6, l7] [] I2 Lg R (GM gc) := by
      intro l6 l7 I2 y e2 ey
      have hfr2 : FrI (V0 [173]) I I2 := by rw [e2]; exact hfr.up rfl
      have hfa2 : FAt I2 (fdn l mc.2.2.1 mc.2.2.2 T j) j := fun k hk => by rw [e2, up3_j _ (by omega)]; exact hfa k hk
      have hfj2 : I2 173 0 j = zI (if j = 0 then 0 else -1) := by rw [e2, up3_s, ey]
      have t1 : (I2 174 0 j).toInt = ix := by rw [hfr2 _ _ rfl]; exact ti2
      have t3 : I2 154 0 ix = zI e.1 := by rw [hfr2 _ _ rfl]; exact ti3
      have t4 : I2 145 0 kb = zI mc.2.2.2 := by rw [hfr2 _ _ rfl]; exact hGG
      refine am_go vX12_fillings 2 ?_
      refine And.intro (fun c => ?_) (fun c => ?_)
      · rw [hxt5] at c
        have hj0 : j = 0 := by omega
        refine k243 _ _ I2 hfr2 hfa2 ?_
        rw [hfj2]
        unfold fval
        rw [if_pos hj0, if_pos hj0]
      · rw [hxt5] at c
        refine am_go vX12_fillings 14 ?_
        refine And.intro ⟨by omega, by omega⟩ ?_
        rw [hxn5]
        refine And.intro ⟨by rw [t1]; omega, by rw [t1]; omega⟩ ?_
        refine And.intro ⟨by omega, by omega⟩ ?_
        refine And.intro (fun c2 => ?_) (fun c2 => ?_)
        · rw [t1, Int.toNat_natCast, t3, h4, hxn1, t4, zI_sub, zI_toInt (by omega) (by omega), zI_toInt (by omega) (by omega)] at c2
          refine k243 _ _ I2 hfr2 hfa2 ?_
          rw [hfj2]
          unfold fval
          rw [if_neg (by omega), if_neg (by omega), hft, if_neg (by omega)]
        · rw [t1, Int.toNat_natCast, t3, h4, hxn1, t4, zI_sub, zI_toInt (by omega) (by omega), zI_toInt (by omega) (by omega)] at c2
          refine am_go vX12_fillings 60 ?_
          refine fillm_in hl (hm.fr hfr2 (V0_out (by decide))) (hp.fr hfr2 (V0_out (by decide))) hes (hT.fr hfr2 rfl) hTok hTl hx1 hkb hF0 hF1 (by omega) h5 hf (fun l6' l7' I3 f3 a3 v3 => ?_) j _ _ 0 (-1) I2 (Nat.le_refl _) (by rw [h5, zI_sub]) rfl (by omega) (by omega) (by omega) (by omega) FrI.rf hfa2 (by rw [hfj2, if_neg (by omega)]) rfl
          refine k243 _ _ I3 (hfr2.tr f3) a3 ?_
          rw [v3]
          unfold fval
          rw [if_neg (by omega), hft, if_pos (by omega)]
    refine am_go vX12_fillings 8 ?_
    refine And.intro (fun c => ?_) (fun c => ?_)
    · rw [hxt2, hxt5] at c
      omega
    refine And.intro (fun c => ?_) (fun c => ?_)
    · rw [hxt5] at c
      refine am_goN vX12_fillings 2 ?_
      refine And.intro ⟨by omega, by omega⟩ ?_
      refine fun y ey I2 e2 => ?_
      rw [hxn5] at e2
      exact k109 _ _ I2 y e2 (by rw [ey, if_neg (by omega)])
    · rw [hxt5] at c
      refine am_goN vX12_fillings 3 ?_
      refine And.intro ⟨by omega, by omega⟩ ?_
      refine fun y ey I2 e2 => ?_
      rw [hxn5] at e2
      exact k109 _ _ I2 y e2 (by rw [ey, if_pos (by omega)])
