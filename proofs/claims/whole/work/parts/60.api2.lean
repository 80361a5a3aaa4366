/-! Small methods: fillings, who, laid, told. -/
set_option maxRecDepth 100000 in
theorem s_fillings {Γ : AMG} {Q : QQ} {d : Nat} {x1 : Int32} {I : II} {Lg : LJ} {R : RR} {gc : Nat → Nat} {l : List MC} {S : PS} (hl : MCsok l) (hm : CMAt I l) (hp : PlanAt I 9 S) (hes : EVsok l S.1)
    (hN : (∀ (kb : Nat) (mc : MC), x1 = zI kb → l[kb]? = some mc → mc.1 ≠ 1) → Q (some (vI (zI (-1)))) I Lg R (GM gc))
    (hY : ∀ (kb : Nat) (mc : MC), x1 = zI kb → l[kb]? = some mc → mc.1 = 1 → Q (some (vI (zI (fans l mc.2.2.1 mc.2.2.2 (bfil S.1 kb))))) I Lg R (GM gc)) :
    am_Sp Γ (d + 4) 0 0 mX11_fillings [vR 11 0, vI x1] I Lg R (GM gc) Q := by
  have hll := hl.1
  refine am_run vX11_fillings 60 _ rfl rfl rfl rfl ?_
  refine s_cm_kindOf hl.1 hm (fun e h0 he => ?_) (fun h0 => ?_)
  · obtain ⟨k0, k1, k2, k3, k4, k5, k6, -⟩ := hl.2 _ _ he
    have hlt := (List.getElem?_eq_some_iff.mp he).1
    have hx1 : x1 = zI x1.toInt.toNat := by rw [show ((x1.toInt.toNat : Nat) : Int) = x1.toInt by omega, zI_self]
    refine And.intro (fun c => ?_) (fun c => ?_)
    · rw [zI_toInt (by omega) (by omega), zI_toInt (by omega) (by omega)] at c
      refine hN (fun kb mc hx he' => ?_)
      have := (List.getElem?_eq_some_iff.mp he').1
      have hxt : x1.toInt = kb := by rw [hx, zI_toInt (by omega) (by omega)]
      rw [hxt, Int.toNat_natCast, he'] at he
      cases he
      exact c
    · rw [zI_toInt (by omega) (by omega), zI_toInt (by omega) (by omega)] at c
      obtain ⟨q1, q2, q3, q4⟩ := k6 (by omega)
      refine s_fillingsNeeded hl hm hp hes hx1 he (by omega) (by omega) (by omega) (by omega) ?_
      rw [fillings_eq hes (by omega)]
      exact hY _ e hx1 he (by omega)
  · refine And.intro (fun c => ?_) (fun c => ?_)
    · refine hN (fun kb mc hx he' => ?_)
      have := (List.getElem?_eq_some_iff.mp he').1
      have hxt : x1.toInt = kb := by rw [hx, zI_toInt (by omega) (by omega)]
      omega
    · rw [zI_toInt (by omega) (by omega), zI_toInt (by omega) (by omega)] at c
      omega
/-- who does an event -/
def CDoAt (I : II) (dn : Nat → Int) : Prop := ∀ e, e < 24 → I 91 0 e = zI (dn e)
def MDoAt (I : II) (n : Nat) (dn : Nat → Int) (made : Bool) : Prop := I 73 0 0 = zI (cond made 1 0) ∧ (made = true → ∀ e, e < n → I 157 0 e = zI (dn e)) ∧ (made = false → ∀ e, dn e = -1)
def whoA (n : Nat) (dn : Nat → Int) (x : Int) : Int := if 0 ≤ x ∧ x < n then dn x.toNat else -1
set_option maxRecDepth 100000 in
theorem s_who {Γ : AMG} {Q : QQ} {d : Nat} {x1 : Int32} {I : II} {Lg : LJ} {R : RR} {gc : Nat → Nat} {S : PS} {dn : Nat → Int} (hp : PlanAt I 9 S) (hd : CDoAt I dn)
    (h : Q (some (vI (zI (whoA S.1.length dn x1.toInt)))) I Lg R (GM gc)) : am_Sp Γ (d + 1) 0 0 mX11_who [vR 11 0, vI x1] I Lg R (GM gc) Q := by
  have hsl := hp.2.1
  unfold whoA at h
  refine am_run vX11_who 60 _ rfl rfl rfl rfl ?_
  have hb : (I 33 9 0 - zI 1).toInt = (S.1.length : Int) - 1 := by rw [hp.1, zI_sub, zI_toInt (by omega) (by omega)]
  refine s_within (fun j1 j2 => ?_) (fun j1 => ?_)
  · rw [zI_toInt (by omega) (by omega)] at j1
    rw [hb] at j2
    rw [if_pos ⟨by omega, by omega⟩] at h
    refine And.intro (fun c => ?_) (fun c => ?_)
    · rw [zI_toInt (by omega) (by omega)] at c
      omega
    refine am_run vX3_doerOf 60 _ rfl rfl rfl rfl ?_
    refine And.intro (fun c2 => ?_) (fun c2 => ?_)
    · omega
    refine And.intro (fun c3 => ?_) (fun c3 => ?_)
    · rw [zI_toInt (by omega) (by omega)] at c3
      omega
    refine And.intro ⟨by omega, by omega⟩ ?_
    rw [← hd _ (by omega)] at h
    exact h
  · rw [zI_toInt (by omega) (by omega), hb] at j1
    rw [if_neg (by omega)] at h
    refine And.intro (fun c => ?_) (fun c => ?_)
    · exact h
    · rw [zI_toInt (by omega) (by omega)] at c
      omega
set_option maxRecDepth 100000 in
theorem s_mwho {Γ : AMG} {Q : QQ} {d : Nat} {x1 : Int32} {I : II} {Lg : LJ} {R : RR} {gc : Nat → Nat} {es : List EV} {dn : Nat → Int} {made : Bool} (hes : es.length ≤ 24) (hp : MPAt I es) (hd : MDoAt I es.length dn made)
    (h : Q (some (vI (zI (whoA es.length dn x1.toInt)))) (up3 I 47 0 0 (zI 0)) Lg R (GM gc)) : am_Sp Γ d 0 0 mX12_who [vR 12 0, vI x1] I Lg R (GM gc) Q := by
  obtain ⟨d1, d2, d3⟩ := hd
  unfold whoA at h
  refine am_runN vX12_who 60 _ rfl rfl rfl rfl ?_
  refine fun y0 ey0 I0 e0 => ?_
  have e0' : I0 = up3 I 47 0 0 (zI 0) := by rw [e0, ey0]
  rw [← e0'] at h
  have hev : (I0 72 0 0).toInt = es.length := by rw [e0, up3_v _ (by decide), hp.1, zI_toInt (by omega) (by omega)]
  have him : I0 73 0 0 = zI (cond made 1 0) := by rw [e0, up3_v _ (by decide)]; exact d1
  refine And.intro (fun c => ?_) (fun c => ?_)
  · rw [him] at c
    cases made
    · have hq : (if 0 ≤ x1.toInt ∧ x1.toInt < es.length then dn x1.toInt.toNat else -1) = -1 := by
        split
        · exact d3 rfl _
        · rfl
      rw [hq] at h
      exact h
    · exact absurd c (by decide)
  · rw [him] at c
    cases made
    · exact absurd c (by decide)
    · refine And.intro (fun c2 => ?_) (fun c2 => ?_)
      · rw [if_neg (by omega)] at h
        exact h
      refine And.intro (fun c3 => ?_) (fun c3 => ?_)
      · rw [hev] at c3
        rw [if_neg (by omega)] at h
        exact h
      · rw [hev] at c3
        refine And.intro ⟨by omega, by omega⟩ ?_
        rw [if_pos ⟨by omega, by omega⟩, ← d2 rfl _ (by omega)] at h
        have : I0 157 0 x1.toInt.toNat = I 157 0 x1.toInt.toNat := by rw [e0, up3_v _ (by decide)]
        rw [this]
        exact h
/-- the boards that lay told -/
def CLaAt (I : II) (ld : List Int) : Prop := I 11 0 0 = zI ld.length ∧ ∀ (k : Nat) (x : Int), ld[k]? = some x → I 89 0 k = zI x
def MLaAt (I : II) (ld : List Int) : Prop := I 81 0 0 = zI ld.length ∧ ∀ (k : Nat) (x : Int), ld[k]? = some x → I 176 0 k = zI x
def laidA (ld : List Int) (x : Int) : Int := if 0 ≤ x then (ld[x.toNat]?).getD (-1) else -1
set_option maxRecDepth 100000 in
theorem s_laid {Γ : AMG} {Q : QQ} {d : Nat} {x1 : Int32} {I : II} {Lg : LJ} {R : RR} {gc : Nat → Nat} {ld : List Int} (hl : ld.length ≤ 4) (hc : CLaAt I ld)
    (h : Q (some (vI (zI (laidA ld x1.toInt)))) I Lg R (GM gc)) : am_Sp Γ (d + 1) 0 0 mX11_laid [vR 11 0, vI x1] I Lg R (GM gc) Q := by
  have hst : (I 11 0 0).toInt = ld.length := by rw [hc.1, zI_toInt (by omega) (by omega)]
  unfold laidA at h
  refine am_run vX11_laid 60 _ rfl rfl rfl rfl ?_
  refine am_run vX2_laidAt 60 _ rfl rfl rfl rfl ?_
  refine And.intro (fun c => ?_) (fun c => ?_)
  · rw [if_neg (by omega)] at h
    exact h
  rw [if_pos (by omega)] at h
  refine And.intro (fun c2 => ?_) (fun c2 => ?_)
  · rw [hst] at c2
    rw [List.getElem?_eq_none (by omega)] at h
    exact h
  rw [hst] at c2
  refine And.intro (fun c3 => ?_) (fun c3 => ?_)
  · rw [zI_toInt (by omega) (by omega)] at c3
    omega
  refine And.intro ⟨by omega, by omega⟩ ?_
  have he : ld[x1.toInt.toNat]? = some ld[x1.toInt.toNat] := List.getElem?_eq_getElem (by omega)
  generalize ld[x1.toInt.toNat] = e at he
  rw [he] at h
  rw [hc.2 _ _ he]
  exact h
set_option maxRecDepth 100000 in
theorem s_mlaid {Γ : AMG} {Q : QQ} {d : Nat} {x1 : Int32} {I : II} {Lg : LJ} {R : RR} {gc : Nat → Nat} {ld : List Int} (hl : ld.length ≤ 4) (hc : MLaAt I ld)
    (h : Q (some (vI (zI (laidA ld x1.toInt)))) (up3 I 47 0 0 (zI 0)) Lg R (GM gc)) : am_Sp Γ d 0 0 mX12_laid [vR 12 0, vI x1] I Lg R (GM gc) Q := by
  unfold laidA at h
  refine am_runN vX12_laid 60 _ rfl rfl rfl rfl ?_
  refine fun y0 ey0 I0 e0 => ?_
  have e0' : I0 = up3 I 47 0 0 (zI 0) := by rw [e0, ey0]
  rw [← e0'] at h
  have hst : (I0 81 0 0).toInt = ld.length := by rw [e0, up3_v _ (by decide), hc.1, zI_toInt (by omega) (by omega)]
  refine And.intro (fun c => ?_) (fun c => ?_)
  · rw [if_neg (by omega)] at h
    exact h
  rw [if_pos (by omega)] at h
  refine And.intro (fun c2 => ?_) (fun c2 => ?_)
  · rw [hst] at c2
    rw [List.getElem?_eq_none (by omega)] at h
    exact h
  rw [hst] at c2
  refine And.intro ⟨by omega, by omega⟩ ?_
  have he : ld[x1.toInt.toNat]? = some ld[x1.toInt.toNat] := List.getElem?_eq_getElem (by omega)
  generalize ld[x1.toInt.toNat] = e at he
  rw [he] at h
  rw [e0, up3_v _ (by decide), hc.2 _ _ he, ← e0]
  exact h
