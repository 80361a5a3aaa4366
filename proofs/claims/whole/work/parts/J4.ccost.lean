/-! made in the class: what a row costs in a column. -/
def evD (es : List EV) (e : Nat) : EV := (es[e]?).getD (0, 0, 0)
theorem evD_at {es : List EV} {e : Nat} {x : EV} (h : es[e]? = some x) : evD es e = x := by unfold evD; rw [h]; rfl
theorem evD_get {es : List EV} {e : Nat} (h : e < es.length) : es[e]? = some (evD es e) := by unfold evD; rw [List.getElem?_eq_getElem h]; rfl
def plc (ml : List MC) (es : List EV) (e : Nat) : Int := (mof ml (evD es e).2.1).2.1
def mwt (ml : List MC) (es : List EV) : Nat → Int := fun e => if e < es.length then ewt ml (evD es e) else 0
def mmy (ml : List MC) (es : List EV) (mn : List Int) : Nat → Nat → Bool := fun r e =>
  if r < mn.length then decide (((mn.getD r 0 - plc ml es e).natAbs : Int) ≤ (evD es e).1)
  else decide ((evD es (r - mn.length)).1 + etk ml (evD es (r - mn.length)) + ((plc ml es (r - mn.length) - plc ml es e).natAbs : Int) ≤ (evD es e).1)
theorem etk_pos {l : List MC} {e : EV} (h : EVok2 l e) : 1 ≤ etk l e := by
  unfold etk tks
  split
  · next q => have := h.2 (by omega) (by omega); omega
  · split
    · next q => have := h.2 (by omega) (by omega); omega
    · omega
theorem mpok_of {ml : List MC} {es : List EV} {mn : List Int} (hes : EVsok ml es) (hes2 : EVsok2 ml es) (hsr : EVsrt es) : mpok mn.length es.length (mwt ml es) (mmy ml es mn) := by
  refine ⟨hes.1, fun e => ?_, fun l e h1 h2 => ?_⟩
  · unfold mwt
    split
    · next h => exact ewt_rng (hes.2 e _ (evD_get h))
    · omega
  · unfold mmy
    rw [if_neg (by omega), show mn.length + l - mn.length = l by omega]
    apply decide_eq_false
    have h3 := hsr e l _ _ h1 (evD_get (by omega)) (evD_get h2)
    have h4 := etk_pos (hes2 l _ (evD_get h2))
    omega
theorem plc_rng {ml : List MC} {es : List EV} {e : Nat} (hl : MCsok ml) (hes : EVsok ml es) (h : e < es.length) : 0 ≤ plc ml es e ∧ plc ml es e ≤ 99 := by
  obtain ⟨-, -, h3, h4, -⟩ := hes.2 e _ (evD_get h)
  have := hl.2 _ _ (mof_get h3 h4)
  exact ⟨this.2.2.1, this.2.2.2.1⟩
set_option maxRecDepth 100000 in
theorem s_costOf {Γ : AMG} {Q : QQ} {d row col : Nat} {x1 x2 : Int32} {I : II} {Lg : LJ} {R : RR} {gc : Nat → Nat} {ml : List MC} {es : List EV} {mn : List Int} (hl : MCsok ml) (hm : CMAt I ml) (hp : PlanAt I 9 (es, false)) (hes : EVsok ml es) (hmn : MNsok mn) (hc : CMenAt I mn) (hev : I 17 0 0 = zI es.length)
    (hr : row < mn.length + es.length) (hcl : col < mn.length + es.length) (hx1 : x1 = zI row) (hx2 : x2 = zI col) (h : Q (some (vI (zI (cst mn.length es.length (mwt ml es) (mmy ml es mn) row col)))) I Lg R (GM gc)) :
    am_Sp Γ (d + 3) 0 0 mX3_costOf [vR 3 0, vI x1, vI x2, vR 8 9, vR 5 0] I Lg R (GM gc) Q := by
  have h24 := hes.1
  have h4 := hmn.1
  have hct : x2.toInt = col := by rw [hx2, zI_toInt (by omega) (by omega)]
  have hrt : x1.toInt = row := by rw [hx1, zI_toInt (by omega) (by omega)]
  have hst : (I 16 0 0).toInt = mn.length := by rw [hc.1, zI_toInt (by omega) (by omega)]
  have hevt : (I 17 0 0).toInt = es.length := by rw [hev, zI_toInt (by omega) (by omega)]
  refine am_runN vX3_costOf 24 _ rfl rfl rfl rfl ?_
  refine fun x5 e5 => ?_
  have h5t : x5.toInt = (row : Int) - mn.length := by rw [e5, hx1, hc.1, zI_sub, zI_toInt (by omega) (by omega)]
  refine And.intro (fun c => ?_) (fun c => ?_)
  · rw [hct, hevt] at c
    rw [cst_end (by omega)] at h
    exact h
  rw [hct, hevt] at c
  have hce : col < es.length := by omega
  have he := evD_get hce
  refine And.intro (fun c2 => ?_) (fun c2 => ?_)
  · rw [hct, h5t] at c2
    have hne : row ≠ mn.length + col := by omega
    obtain ⟨v1, v2, v3, v4, v5, v6⟩ := hes.2 _ _ he
    have hme := mof_get v3 v4
    have hpl := plc_rng hl hes hce
    have hmk := hl.2 _ _ hme
    -- behind 'ready'
    have fin : ∀ (x6 x7 x8 : Int32) (l9 : Option AV) (rd : Int), x6 = zI (evD es col).2.1.toNat → x8 = zI rd → (-100000 ≤ rd ∧ rd ≤ 1000000) → (mmy ml es mn row col = decide (rd ≤ (evD es col).1)) → am_J Γ mX3_costOf Q (d + 3) 0 0 119 [some (vR 3 0), some (vI x1), some (vI x2), some (vR 8 9), some (vR 5 0), some (vI x5), some (vI x6), some (vI x7), some (vI x8), l9] [] I Lg R (GM gc) := by
      intro x6 x7 x8 l9 rd e6 e8 hrd hmy
      refine am_goN vX3_costOf 60 ?_
      refine s_tickOfE hp hx2 he ?_
      refine And.intro (fun c3 => ?_) (fun c3 => ?_)
      · rw [e8, zI_toInt (by omega) (by omega), zI_toInt (by omega) (by omega)] at c3
        rw [cst_no hce hne (by rw [hmy]; exact decide_eq_false (by omega))] at h
        exact h
      · rw [e8, zI_toInt (by omega) (by omega), zI_toInt (by omega) (by omega)] at c3
        rw [cst_do hce hne (by rw [hmy]; exact decide_eq_true (by omega))] at h
        refine s_numberOfE hp hx2 he ?_
        refine s_cm_strength hl.1 hm e6 rfl hme hmk ?_
        unfold mwt at h
        rw [if_pos hce] at h
        rw [← zI_neg] at h
        exact h
    refine s_machineOfE hp hx2 he ?_
    refine fun x6 e6 => ?_
    have e6 : x6 = zI (evD es col).2.1.toNat := by rw [e6, show (((evD es col).2.1.toNat : Nat) : Int) = (evD es col).2.1 by omega]
    refine s_cm_placeOfE hl.1 hm e6 hme ?_
    refine fun x7 e7 => ?_
    have e7 : x7 = zI (plc ml es col) := e7
    refine And.intro (fun c3 => ?_) (fun c3 => ?_)
    · rw [hrt, hst] at c3
      have hlr : row - mn.length < es.length := by omega
      have he2 := evD_get hlr
      have e5' : x5 = zI (row - mn.length : Nat) := by rw [← zI_self x5, h5t, show ((row - mn.length : Nat) : Int) = (row : Int) - mn.length by omega]
      obtain ⟨u1, u2, u3, u4, u5, u6⟩ := hes.2 _ _ he2
      have hme2 := mof_get u3 u4
      have hpl2 := plc_rng hl hes hlr
      have hmk2 := hl.2 _ _ hme2
      have htk := etk_rng (hes.2 _ _ he2)
      refine am_goN vX3_costOf 22 ?_
      refine s_machineOfE hp e5' he2 ?_
      refine fun x9 e9 => ?_
      have e9 : x9 = zI (evD es (row - mn.length)).2.1.toNat := by rw [e9, show (((evD es (row - mn.length)).2.1.toNat : Nat) : Int) = (evD es (row - mn.length)).2.1 by omega]
      refine s_tickOfE hp e5' he2 ?_
      refine s_numberOfE hp e5' he2 ?_
      refine s_cm_takes hl.1 hm e9 rfl hme2 hmk2 ?_
      refine s_cm_placeOfE hl.1 hm e9 hme2 ?_
      refine fun x8 e8 => ?_
      refine fin x6 x7 x8 _ ((evD es (row - mn.length)).1 + etk ml (evD es (row - mn.length)) + ((plc ml es (row - mn.length) - plc ml es col).natAbs : Int)) e6 ?_ ?_ ?_
      · rw [e8, e7, zI_sub]
        show zI _ + zI (etk ml _) + am_abs (zI (plc ml es (row - mn.length) - plc ml es col)) = _
        rw [am_abs_z (by omega) (by omega), zI_add, zI_add]
      · omega
      · unfold mmy
        rw [if_neg (by omega)]
    · rw [hrt, hst] at c3
      refine am_goN vX3_costOf 13 ?_
      refine And.intro (fun c4 => ?_) (fun c4 => ?_)
      · rw [hrt, zI_toInt (by omega) (by omega)] at c4
        omega
      have hrl : row < mn.length := by omega
      have hg : mn[row]? = some (mn.getD row 0) := by rw [List.getD_eq_getElem?_getD, List.getElem?_eq_getElem hrl]; rfl
      have hb := hmn.2 _ _ hg
      have hh := hc.2 _ _ hg
      refine And.intro ⟨by omega, by omega⟩ ?_
      refine fun x8 e8 => ?_
      refine fin x6 x7 x8 _ ((mn.getD row 0 - plc ml es col).natAbs : Int) e6 ?_ ?_ ?_
      · rw [e8, e7, hrt, Int.toNat_natCast, hh, zI_sub, am_abs_z (by omega) (by omega)]
      · omega
      · unfold mmy
        rw [if_pos hrl]
  · rw [hct, h5t] at c2
    have hro : row = mn.length + col := by omega
    rw [hro, cst_own] at h
    exact h
