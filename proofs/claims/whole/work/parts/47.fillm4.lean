theorem bfil_ok {l : List MC} {es : List EV} {m : Int} (hes : EVsok l es) (k : Nat) (e : EV) (h : (bfil es m)[k]? = some e) : EVok l e ∧ e.2.1 = m := by
  have h1 : e ∈ bfil es m := List.mem_of_getElem? h
  unfold bfil at h1
  rw [List.mem_filter] at h1
  obtain ⟨h2, h3⟩ := h1
  obtain ⟨i, hi⟩ := List.getElem?_of_mem h2
  exact ⟨hes.2 i e hi, by simpa using h3⟩
set_option maxRecDepth 100000 in
theorem s_mfillings {Γ : AMG} {Q : QQ} {d : Nat} {x1 : Int32} {I : II} {Lg : LJ} {R : RR} {gc : Nat → Nat} {l : List MC} {es : List EV} (hl : MCsok l) (hm : MMAt I l) (hp : MPAt I es) (hes : EVsok l es)
    (hN : (∀ (kb : Nat) (mc : MC), x1 = zI kb → l[kb]? = some mc → mc.1 ≠ 1) → Q (some (vI (zI (-1)))) (up3 I 47 0 0 (zI 0)) Lg R (GM gc))
    (hY : ∀ (kb : Nat) (mc : MC), x1 = zI kb → l[kb]? = some mc → mc.1 = 1 → ∀ I' : II, FrI (V0 [47, 174, 173]) I I' → I' 47 0 0 = zI 0 → Q (some (vI (zI (fans l mc.2.2.1 mc.2.2.2 (bfil es kb))))) I' Lg R (GM gc)) :
    am_Sp Γ (d + 2) 0 0 mX12_fillings [vR 12 0, vI x1] I Lg R (GM gc) Q := by
  have hll := hl.1
  refine am_runN vX12_fillings 60 _ rfl rfl rfl rfl ?_
  refine fun y1 ey1 I1 e1 => ?_
  have f1 : FrI (V0 [47]) I I1 := by rw [e1]; exact FrI.rf.up rfl
  have hm1 : MMAt I1 l := hm.fr f1 (V0_out (by decide))
  have hp1 : MPAt I1 es := hp.fr f1 (V0_out (by decide))
  have e1' : I1 = up3 I 47 0 0 (zI 0) := by rw [e1, ey1]
  have hmt : (I1 59 0 0).toInt = l.length := by rw [hm1.1, zI_toInt (by omega) (by omega)]
  refine And.intro (fun c => ?_) (fun c => ?_)
  · rw [e1']
    refine hN (fun kb mc hx he => ?_)
    have := (List.getElem?_eq_some_iff.mp he).1
    rw [hx, zI_toInt (by omega) (by omega)] at c
    omega
  refine And.intro (fun c2 => ?_) (fun c2 => ?_)
  · rw [hmt] at c2
    rw [e1']
    refine hN (fun kb mc hx he => ?_)
    have := (List.getElem?_eq_some_iff.mp he).1
    rw [hx, zI_toInt (by omega) (by omega)] at c2
    omega
  rw [hmt] at c2
  have he : l[x1.toInt.toNat]? = some l[x1.toInt.toNat] := List.getElem?_eq_getElem (by omega)
  generalize l[x1.toInt.toNat] = mc at he
  have hx1 : x1 = zI x1.toInt.toNat := by rw [show ((x1.toInt.toNat : Nat) : Int) = x1.toInt by omega, zI_self]
  obtain ⟨k0, k1, k2, k3, k4, k5, k6, -⟩ := hl.2 _ _ he
  have hkd := (hm1.2 _ _ he).1
  refine And.intro ⟨by omega, by omega⟩ ?_
  rw [hkd]
  refine And.intro (fun c3 => ?_) (fun c3 => ?_)
  · rw [zI_toInt (by omega) (by omega), zI_toInt (by omega) (by omega)] at c3
    obtain ⟨q1, q2, q3, q4⟩ := k6 c3
    refine fun x2 ex2 x3 ex3 => ?_
    have hTok : ∀ (k : Nat) (e : EV), (bfil es x1.toInt.toNat)[k]? = some e → EVok l e := fun k e h => (bfil_ok hes k e h).1
    have hTl : (bfil es x1.toInt.toNat).length ≤ 24 := by
      have := bfil_len (es := es) (m := x1.toInt.toNat)
      have := hes.1
      omega
    refine fillm_collect (kb := x1.toInt.toNat) hp1 hes hl.1 hx1 (by omega) (fun x2' x3' I2 f2 h2 hT2 => ?_) es.length 0 x2 x3 I1 (by omega) ex3 ex2 FrI.rf (fun k e he => by cases he)
    have hf2 : FrI (V0 [47, 174, 173]) I I2 := (f1.mono (fun v i h => V0_sub (by decide) h)).tr (f2.mono (fun v i h => V0_sub (by decide) h))
    have hm2 : MMAt I2 l := hm1.fr f2 (V0_out (by decide))
    have hp2 : MPAt I2 es := hp1.fr f2 (V0_out (by decide))
    have fin : ∀ (x3 x4 x5 : Int32) (l6 l7 : Option AV), x3 = zI (if (bfil es x1.toInt.toNat).length = 0 then 0 else -1) → x4 = zI 0 → x5 = zI 0 → am_J Γ mX12_fillings Q (d + 2) 0 0 86 [some (vR 12 0), some (vI x1), some (vI x2'), some (vI x3), some (vI x4), some (vI x5), l6, l7] [] I2 Lg R (GM gc) := by
      intro x3 x4 x5 l6 l7 h3 h4 h5
      refine fillm_out hl hm2 hp2 hes hT2 hTok hTl hx1 he (by omega) (by omega) (by omega) (by omega) h2 (fun x4' l5' l6' l7' I3 f3 a3 => ?_) (bfil es x1.toInt.toNat).length 0 x4 x5 l6 l7 I2 (by omega) h5 h4 FrI.rf (fun k hk => by omega)
      refine am_go vX12_fillings 60 ?_
      refine fillm_rest hl (hm2.fr f3 (V0_out (by decide))) (hp2.fr f3 (V0_out (by decide))) hes (hT2.fr f3 rfl) hTok hTl hx1 he (by omega) (by omega) (f := fdn l mc.2.2.1 mc.2.2.2 (bfil es x1.toInt.toNat) (bfil es x1.toInt.toNat).length) (fun k => ?_) a3 (c0 := if (bfil es x1.toInt.toNat).length = 0 then 0 else -1) ?_ (bfil es x1.toInt.toNat).length x3 _ _ l7' 0 _ (Nat.le_refl _) (by rw [h2, zI_sub]) rfl (by omega) (by omega) h3 (by split <;> omega) (by split <;> omega) rfl
      · have := fdn_rng (l := l) (F := mc.2.2.1) (G := mc.2.2.2) (T := bfil es x1.toInt.toNat) (bfil es x1.toInt.toNat).length k
        omega
      · have hQ := hY x1.toInt.toNat mc hx1 he c3 I3 (hf2.tr (f3.mono (fun v i h => V0_sub (by decide) h))) (by rw [f3 _ _ rfl, f2 _ _ rfl, e1', up3_s])
        exact hQ
    refine am_go vX12_fillings 60 ?_
    refine And.intro (fun c4 => ?_) (fun c4 => ?_)
    · rw [h2, zI_toInt (by omega) (by omega)] at c4
      exact fin _ _ _ _ _ (by rw [if_neg (by omega)]) rfl rfl
    · rw [h2, zI_toInt (by omega) (by omega)] at c4
      exact fin _ _ _ _ _ (by rw [if_pos (by omega)]) rfl rfl
  · rw [zI_toInt (by omega) (by omega), zI_toInt (by omega) (by omega)] at c3
    rw [e1']
    refine hN (fun kb mc' hx he' => ?_)
    have := (List.getElem?_eq_some_iff.mp he').1
    have hxt : x1.toInt = kb := by rw [hx, zI_toInt (by omega) (by omega)]
    rw [hxt, Int.toNat_natCast, he'] at he
    cases he
    exact c3
