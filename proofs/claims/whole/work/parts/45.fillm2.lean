/-! fillings in the reference: the table. -/
def FAt (I : II) (f : Nat → Int) (n : Nat) : Prop := ∀ k, k < n → I 173 0 k = zI (f k)
theorem FAt.fr {I I' : II} {P : Nat → Nat → Bool} {f : Nat → Int} {n : Nat} (h : FAt I f n) (hf : FrI P I I') (hP : P 173 0 = false) : FAt I' f n := fun k hk => by rw [hf _ _ hP]; exact h k hk
theorem mnum {I : II} {es T : List EV} {l : List MC} {k : Nat} {e : EV} (hp : MPAt I es) (hT : TAt I es T) (hes : EVsok l es) (he : T[k]? = some e) : ∃ i : Nat, i < 24 ∧ I 174 0 k = zI i ∧ (I 174 0 k).toInt = i ∧ I 154 0 i = zI e.1 ∧ I 156 0 i = zI e.2.2 ∧ es[i]? = some e := by
  obtain ⟨i, h1, h2⟩ := hT k e he
  have hi := (List.getElem?_eq_some_iff.mp h2).1
  have := hes.1
  exact ⟨i, by omega, h1, by rw [h1, zI_toInt (by omega) (by omega)], (hp.2 i e h2).1, (hp.2 i e h2).2.2, h2⟩
set_option maxRecDepth 100000 in
theorem fillm_in {Γ : AMG} {Q : QQ} {d kb j : Nat} {x1 x2 x3 x4 x5 : Int32} {I : II} {Lg : LJ} {R : RR} {gc : Nat → Nat} {l : List MC} {es T : List EV} {mc : MC} {f : Nat → Int} (hl : MCsok l) (hm : MMAt I l) (hp : MPAt I es) (hes : EVsok l es) (hT : TAt I es T) (hTok : ∀ (k : Nat) (e : EV), T[k]? = some e → EVok l e) (hTl : T.length ≤ 24) (hx1 : x1 = zI kb) (hkb : l[kb]? = some mc) (hF0 : 0 ≤ mc.2.2.1) (hF1 : mc.2.2.1 ≤ 99) (hj : j < T.length) (hx5 : x5 = zI j) (hf : ∀ k, -1 ≤ f k ∧ f k ≤ j)
    (h : ∀ (l6 l7 : Option AV) (I' : II), FrI (V0 [173]) I I' → FAt I' f j → I' 173 0 j = zI (finner mc.2.2.1 T f j 0 (-1)) → am_J Γ mX12_fillings Q (d + 2) 0 0 243 [some (vR 12 0), some (vI x1), some (vI x2), some (vI x3), some (vI x4), some (vI x5), l6, l7] [] I' Lg R (GM gc)) :
    ∀ (i : Nat) (x6 x7 : Int32) (s c : Int) (I1 : II), i ≤ j → x7 = zI ((i : Int) - 1) → x6 = zI s → 0 ≤ s → s ≤ 9999 * ((j : Int) - i) → -1 ≤ c → c ≤ (j : Int) + 1 → FrI (V0 [173]) I I1 → FAt I1 f j → I1 173 0 j = zI c → finner mc.2.2.1 T f i s c = finner mc.2.2.1 T f j 0 (-1) →
      am_J Γ mX12_fillings Q (d + 2) 0 0 147 [some (vR 12 0), some (vI x1), some (vI x2), some (vI x3), some (vI x4), some (vI x5), some (vI x6), some (vI x7)] [] I1 Lg R (GM gc) := by
  have hkl := (List.getElem?_eq_some_iff.mp hkb).1
  have hll := hl.1
  have hxt5 : x5.toInt = j := by rw [hx5, zI_toInt (by omega) (by omega)]
  have hxt1 : x1.toInt = kb := by rw [hx1, zI_toInt (by omega) (by omega)]
  intro i
  induction i with
  | zero =>
    intro x6 x7 s c I1 hi h7 h6 hs0 hs1 hc0 hc1 hfr hfa hfj hq
    have hq : c = finner mc.2.2.1 T f j 0 (-1) := hq
    refine am_go vX12_fillings 2 ?_
    refine And.intro (fun c2 => ?_) (fun c2 => ?_)
    · exact h _ _ I1 hfr hfa (by rw [hfj, hq])
    · rw [h7, zI_toInt (by omega) (by omega)] at c2
      omega
  | succ i ih =>
    intro x6 x7 s c I1 hi h7 h6 hs0 hs1 hc0 hc1 hfr hfa hfj hq
    have hxt7 : x7.toInt = i := by rw [h7, zI_toInt (by omega) (by omega)]; omega
    have he : T[i]? = some T[i] := List.getElem?_eq_getElem (by omega)
    generalize T[i] = e at he
    obtain ⟨ix, hix, ti1, ti2, ti3, ti4, -⟩ := mnum hp hT hes he
    have hnr := fnum_rng hTok i
    have hne := fnum_e he
    have hfi := hfa i (by omega)
    have hfr0 := hf i
    have hq : finner mc.2.2.1 T f i (s + fnum T i) (if s + fnum T i ≤ mc.2.2.1 ∧ f i ≠ -1 ∧ (c = -1 ∨ f i + 1 < c) then f i + 1 else c) = finner mc.2.2.1 T f j 0 (-1) := hq
    have hnx : x7 + zI (-1) = zI ((i : Int) - 1) := by rw [h7, zI_add]; congr 1; omega
    have hT1 : I1 174 0 i = zI ix := by rw [hfr _ _ rfl]; exact ti1
    have hT2 : (I1 174 0 i).toInt = ix := by rw [hfr _ _ rfl]; exact ti2
    have hN : I1 156 0 ix = zI (fnum T i) := by rw [hfr _ _ rfl, ti4, hne]
    have hFF : I1 144 0 kb = zI mc.2.2.1 := by rw [hfr _ _ rfl]; exact (hm.2 kb mc hkb).2.2.1
    refine am_goN vX12_fillings 80 ?_
    refine And.intro (fun c2 => ?_) (fun c2 => ?_)
    · rw [hxt7] at c2
      omega
    refine And.intro ⟨by omega, by omega⟩ ?_
    rw [hxt7, Int.toNat_natCast]
    refine And.intro ⟨by rw [hT2]; omega, by rw [hT2]; omega⟩ ?_
    rw [hT2, Int.toNat_natCast, hN]
    refine fun x6' ex6 => ?_
    have h6' : x6' = zI (s + fnum T i) := by rw [ex6, h6, zI_add]
    refine And.intro ⟨by omega, by omega⟩ ?_
    have hxn1 : x1.toInt.toNat = kb := by rw [hxt1]; omega
    have hxn5 : x5.toInt.toNat = j := by rw [hxt5]; omega
    have hxn7 : x7.toInt.toNat = i := by rw [hxt7]; omega
    have go : ∀ (c' : Int) (x7' : Int32) (I2 : II), x7' = x7 + zI (-1) → -1 ≤ c' → c' ≤ (j : Int) + 1 → FrI (V0 [173]) I I2 → FAt I2 f j → I2 173 0 j = zI c' → (if s + fnum T i ≤ mc.2.2.1 ∧ f i ≠ -1 ∧ (c = -1 ∨ f i + 1 < c) then f i + 1 else c) = c' → am_J Γ mX12_fillings Q (d + 2) 0 0 147 [some (vR 12 0), some (vI x1), some (vI x2), some (vI x3), some (vI x4), some (vI x5), some (vI x6'), some (vI x7')] [] I2 Lg R (GM gc) := by
      intro c' x7' I2 ex7 hc0' hc1' hfr2 hfa2 hfj2 hcc
      rw [hcc] at hq
      exact ih x6' x7' (s + fnum T i) c' I2 (by omega) (by rw [ex7]; exact hnx) h6' (by omega) (by omega) hc0' hc1' hfr2 hfa2 hfj2 hq
    have set : ∀ (x7' : Int32) (I2 : II) (y : Int32), y = zI (f i) + zI 1 → I2 = up3 I1 173 0 j y → x7' = x7 + zI (-1) → s + fnum T i ≤ mc.2.2.1 → f i ≠ -1 → (c = -1 ∨ f i + 1 < c) → am_J Γ mX12_fillings Q (d + 2) 0 0 147 [some (vR 12 0), some (vI x1), some (vI x2), some (vI x3), some (vI x4), some (vI x5), some (vI x6'), some (vI x7')] [] I2 Lg R (GM gc) := by
      intro x7' I2 y ey eI ex7 q1 q2 q3
      refine go (f i + 1) x7' I2 ex7 (by omega) (by omega) (by rw [eI]; exact hfr.up rfl) (fun k hk => ?_) (by rw [eI, up3_s, ey, zI_add]) (if_pos ⟨q1, q2, q3⟩)
      rw [eI, up3_j _ (by omega)]
      exact hfa k hk
    refine And.intro (fun c3 => ?_) (fun c3 => ?_)
    · rw [h6', hxn1, hFF, zI_toInt (by omega) (by omega), zI_toInt (by omega) (by omega)] at c3
      refine fun x7' ex7 => ?_
      exact go c x7' I1 ex7 hc0 hc1 hfr hfa hfj (if_neg (by omega))
    rw [h6', hxn1, hFF, zI_toInt (by omega) (by omega), zI_toInt (by omega) (by omega)] at c3
    refine And.intro ⟨by omega, by omega⟩ ?_
    refine And.intro (fun c4 => ?_) (fun c4 => ?_)
    · rw [hxn7, hfi, zI_toInt (by omega) (by omega), zI_toInt (by omega) (by omega)] at c4
      refine fun x7' ex7 => ?_
      exact go c x7' I1 ex7 hc0 hc1 hfr hfa hfj (if_neg (by omega))
    rw [hxn7, hfi, zI_toInt (by omega) (by omega), zI_toInt (by omega) (by omega)] at c4
    refine And.intro ⟨by omega, by omega⟩ ?_
    refine And.intro (fun c5 => ?_) (fun c5 => ?_)
    · rw [hxn5, hfj, zI_toInt (by omega) (by omega), zI_toInt (by omega) (by omega)] at c5
      refine And.intro ⟨by omega, by omega⟩ ?_
      refine And.intro ⟨by omega, by omega⟩ ?_
      refine fun y ey I2 e2 x7' ex7 => ?_
      rw [hxn7, hfi] at ey
      rw [hxn5] at e2
      exact set x7' I2 y ey e2 ex7 (by omega) c4 (Or.inl c5)
    rw [hxn5, hfj, zI_toInt (by omega) (by omega), zI_toInt (by omega) (by omega)] at c5
    refine And.intro ⟨by omega, by omega⟩ ?_
    refine And.intro ⟨by omega, by omega⟩ ?_
    refine And.intro (fun c6 => ?_) (fun c6 => ?_)
    · rw [hxn7, hxn5, hfi, hfj, zI_add, zI_toInt (by omega) (by omega), zI_toInt (by omega) (by omega)] at c6
      refine fun x7' ex7 => ?_
      exact go c x7' I1 ex7 hc0 hc1 hfr hfa hfj (if_neg (by omega))
    rw [hxn7, hxn5, hfi, hfj, zI_add, zI_toInt (by omega) (by omega), zI_toInt (by omega) (by omega)] at c6
    refine And.intro ⟨by omega, by omega⟩ ?_
    refine And.intro ⟨by omega, by omega⟩ ?_
    refine fun y ey I2 e2 x7' ex7 => ?_
    rw [hxn7, hfi] at ey
    rw [hxn5] at e2
    exact set x7' I2 y ey e2 ex7 (by omega) c4 (Or.inr (by omega))
