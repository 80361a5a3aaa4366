/-! Events. -/
def mof (l : List MC) (m : Int) : MC := (l[m.toNat]?).getD (3, 0, 0, 0)
theorem mof_get {l : List MC} {m : Int} (h0 : 0 ≤ m) (h1 : m < l.length) : l[m.toNat]? = some (mof l m) := by
  unfold mof
  rw [List.getElem?_eq_getElem (by omega)]
  rfl
def EVok (l : List MC) (e : EV) : Prop := 0 ≤ e.1 ∧ e.1 ≤ 4000 ∧ 0 ≤ e.2.1 ∧ e.2.1 < l.length ∧ 0 ≤ e.2.2 ∧ e.2.2 ≤ 9999
def EVsok (l : List MC) (es : List EV) : Prop := es.length ≤ 24 ∧ ∀ (k : Nat) (e : EV), es[k]? = some e → EVok l e
abbrev mev : List Nat := [72, 154, 155, 156]
def MPAt (I : II) (es : List EV) : Prop := I 72 0 0 = zI es.length ∧ ∀ (k : Nat) (e : EV), es[k]? = some e → I 154 0 k = zI e.1 ∧ I 155 0 k = zI e.2.1 ∧ I 156 0 k = zI e.2.2
theorem MPAt.fr {I I' : II} {P : Nat → Nat → Bool} {es : List EV} (h : MPAt I es) (hf : FrI P I I') (hP : ∀ v ∈ mev, P v 0 = false) : MPAt I' es := by
  refine ⟨by rw [hf _ _ (hP _ (by decide))]; exact h.1, fun k e he => ?_⟩
  obtain ⟨h1, h2, h3⟩ := h.2 k e he
  refine ⟨?_, ?_, ?_⟩ <;> rw [hf _ _ (hP _ (by decide))] <;> assumption
def etk (l : List MC) (e : EV) : Int := tks (mof l e.2.1) e.2.2
def ewt (l : List MC) (e : EV) : Int := wth (mof l e.2.1) e.2.2
theorem etk_rng {l : List MC} {e : EV} (h : EVok l e) : 0 ≤ etk l e ∧ etk l e ≤ 40000 := by
  obtain ⟨-, -, -, -, h1, h2⟩ := h
  unfold etk tks
  split
  · omega
  · split <;> omega
theorem ewt_rng {l : List MC} {e : EV} (h : EVok l e) : 0 ≤ ewt l e ∧ ewt l e ≤ 9999 := by
  obtain ⟨-, -, -, -, h1, h2⟩ := h
  unfold ewt wth
  split <;> omega
def letG (l : List MC) (r : Int) (e : EV) : Bool := decide ((mof l e.2.1).1 = 0) && decide ((mof l e.2.1).2.2.1 = r)
/-- the common hypotheses on an event of the reference -/
theorem mp_ix {I : II} {l : List MC} {es : List EV} {k : Nat} {e : EV} (hm : MMAt I l) (hp : MPAt I es) (hes : EVsok l es) (hl : l.length ≤ 12) (he : es[k]? = some e) :
    k < 24 ∧ (I 155 0 k).toInt = e.2.1 ∧ (I 155 0 k).toInt.toNat = e.2.1.toNat ∧ 0 ≤ e.2.1 ∧ e.2.1 < 12 ∧ l[e.2.1.toNat]? = some (mof l e.2.1) := by
  have hk := (List.getElem?_eq_some_iff.mp he).1
  obtain ⟨-, -, h1, h2, -⟩ := hes.2 k e he
  have h3 : (I 155 0 k).toInt = e.2.1 := by rw [(hp.2 k e he).2.1, zI_toInt (by omega) (by omega)]
  exact ⟨by have := hes.1; omega, h3, by rw [h3], h1, by omega, mof_get h1 h2⟩
set_option maxRecDepth 100000 in
theorem s_mtakes {Γ : AMG} {Q : QQ} {d k : Nat} {x : Int32} {I : II} {Lg : LJ} {R : RR} {gc : Nat → Nat} {l : List MC} {es : List EV} {e : EV} (hl : MCsok l) (hm : MMAt I l) (hp : MPAt I es) (hes : EVsok l es) (hx : x = zI k) (he : es[k]? = some e)
    (hy : Q (some (vI (zI (etk l e)))) I Lg R (GM gc)) : am_Sp Γ d 0 0 mX12_takes [vR 12 0, vI x] I Lg R (GM gc) Q := by
  obtain ⟨i1, i2, i3, i4, i5, i6⟩ := mp_ix hm hp hes hl.1 he
  have hxt : x.toInt = k := by rw [hx, zI_toInt (by omega) (by omega)]
  have hxn : x.toInt.toNat = k := by rw [hxt]; omega
  obtain ⟨k0, k1, -⟩ := hl.2 _ _ i6
  have hkd := (hm.2 _ _ i6).1
  have hnm := (hp.2 k e he).2.2
  unfold etk tks at hy
  refine am_run vX12_takes 40 _ rfl rfl rfl rfl ?_
  refine And.intro ⟨by omega, by omega⟩ ?_
  rw [hxn]
  refine And.intro ⟨by omega, by omega⟩ ?_
  rw [i3, hkd]
  refine And.intro (fun c => ?_) (fun c => ?_)
  · rw [zI_toInt (by omega) (by omega), zI_toInt (by omega) (by omega)] at c
    rw [if_neg c] at hy
    refine And.intro (fun c2 => ?_) (fun c2 => ?_)
    · rw [zI_toInt (by omega) (by omega), zI_toInt (by omega) (by omega)] at c2
      rw [if_neg c2] at hy
      exact hy
    · rw [zI_toInt (by omega) (by omega), zI_toInt (by omega) (by omega)] at c2
      rw [if_pos (by omega), ← hnm] at hy
      refine And.intro ⟨by omega, by omega⟩ ?_
      rw [hxn]
      exact hy
  · rw [zI_toInt (by omega) (by omega), zI_toInt (by omega) (by omega)] at c
    rw [if_pos (by omega), ← zI_mul, ← hnm] at hy
    refine And.intro ⟨by omega, by omega⟩ ?_
    rw [hxn]
    exact hy
set_option maxRecDepth 100000 in
theorem s_mworth {Γ : AMG} {Q : QQ} {d k : Nat} {x : Int32} {I : II} {Lg : LJ} {R : RR} {gc : Nat → Nat} {l : List MC} {es : List EV} {e : EV} (hl : MCsok l) (hm : MMAt I l) (hp : MPAt I es) (hes : EVsok l es) (hx : x = zI k) (he : es[k]? = some e)
    (hy : Q (some (vI (zI (ewt l e)))) I Lg R (GM gc)) : am_Sp Γ d 0 0 mX12_worth [vR 12 0, vI x] I Lg R (GM gc) Q := by
  obtain ⟨i1, i2, i3, i4, i5, i6⟩ := mp_ix hm hp hes hl.1 he
  have hxt : x.toInt = k := by rw [hx, zI_toInt (by omega) (by omega)]
  have hxn : x.toInt.toNat = k := by rw [hxt]; omega
  obtain ⟨k0, k1, -⟩ := hl.2 _ _ i6
  have hkd := (hm.2 _ _ i6).1
  have hnm := (hp.2 k e he).2.2
  unfold ewt wth at hy
  refine am_run vX12_worth 40 _ rfl rfl rfl rfl ?_
  refine And.intro ⟨by omega, by omega⟩ ?_
  rw [hxn]
  refine And.intro ⟨by omega, by omega⟩ ?_
  rw [i3, hkd]
  refine And.intro (fun c => ?_) (fun c => ?_)
  · rw [zI_toInt (by omega) (by omega)] at c
    rw [if_pos (Or.inl c)] at hy
    exact hy
  · rw [zI_toInt (by omega) (by omega)] at c
    refine And.intro (fun c2 => ?_) (fun c2 => ?_)
    · rw [zI_toInt (by omega) (by omega), zI_toInt (by omega) (by omega)] at c2
      rw [if_neg (by omega), ← hnm] at hy
      refine And.intro ⟨by omega, by omega⟩ ?_
      rw [hxn]
      exact hy
    · rw [zI_toInt (by omega) (by omega), zI_toInt (by omega) (by omega)] at c2
      rw [if_pos (by omega)] at hy
      exact hy
set_option maxRecDepth 100000 in
theorem s_mstandOf {Γ : AMG} {Q : QQ} {d k : Nat} {x : Int32} {I : II} {Lg : LJ} {R : RR} {gc : Nat → Nat} {l : List MC} {es : List EV} {e : EV} (hl : MCsok l) (hm : MMAt I l) (hp : MPAt I es) (hes : EVsok l es) (hx : x = zI k) (he : es[k]? = some e)
    (hy : Q (some (vI (zI (mof l e.2.1).2.1))) I Lg R (GM gc)) : am_Sp Γ d 0 0 mX12_standOf [vR 12 0, vI x] I Lg R (GM gc) Q := by
  obtain ⟨i1, i2, i3, i4, i5, i6⟩ := mp_ix hm hp hes hl.1 he
  have hxt : x.toInt = k := by rw [hx, zI_toInt (by omega) (by omega)]
  have hxn : x.toInt.toNat = k := by rw [hxt]; omega
  have hst := (hm.2 _ _ i6).2.1
  refine am_run vX12_standOf 40 _ rfl rfl rfl rfl ?_
  refine And.intro ⟨by omega, by omega⟩ ?_
  rw [hxn]
  refine And.intro ⟨by omega, by omega⟩ ?_
  rw [i3, hst]
  exact hy
set_option maxRecDepth 100000 in
theorem s_misLetGo {Γ : AMG} {Q : QQ} {d k : Nat} {x y : Int32} {r : Int} {I : II} {Lg : LJ} {R : RR} {gc : Nat → Nat} {l : List MC} {es : List EV} {e : EV} (hl : MCsok l) (hm : MMAt I l) (hp : MPAt I es) (hes : EVsok l es) (hx : x = zI k) (hyr : y = zI r) (hr0 : 0 ≤ r) (hr1 : r < 4) (he : es[k]? = some e)
    (hy : letG l r e = true → Q (some (vI (zI 1))) I Lg R (GM gc)) (hn : letG l r e = false → Q (some (vI (zI 0))) I Lg R (GM gc)) : am_Sp Γ d 0 0 mX12_isLetGo [vR 12 0, vI x, vI y] I Lg R (GM gc) Q := by
  obtain ⟨i1, i2, i3, i4, i5, i6⟩ := mp_ix hm hp hes hl.1 he
  have hxt : x.toInt = k := by rw [hx, zI_toInt (by omega) (by omega)]
  have hxn : x.toInt.toNat = k := by rw [hxt]; omega
  have hyt : y.toInt = r := by rw [hyr, zI_toInt (by omega) (by omega)]
  obtain ⟨k0, k1, k2, k3, k4, k5, k6, k7, k8⟩ := hl.2 _ _ i6
  obtain ⟨hkd, -, hfi, -⟩ := hm.2 _ _ i6
  refine am_run vX12_isLetGo 40 _ rfl rfl rfl rfl ?_
  refine And.intro ⟨by omega, by omega⟩ ?_
  rw [hxn]
  refine And.intro ⟨by omega, by omega⟩ ?_
  rw [i3, hkd]
  refine And.intro (fun c => ?_) (fun c => ?_)
  · rw [zI_toInt (by omega) (by omega)] at c
    exact ⟨Or.inl rfl, hn (by unfold letG; simp [c])⟩
  · rw [zI_toInt (by omega) (by omega)] at c
    refine And.intro ⟨by omega, by omega⟩ ?_
    rw [hxn]
    refine And.intro ⟨by omega, by omega⟩ ?_
    rw [i3, hfi]
    refine And.intro (fun c2 => ?_) (fun c2 => ?_)
    · rw [zI_toInt k4.1 k4.2, hyt] at c2
      exact ⟨Or.inl rfl, hn (by unfold letG; simp [c2])⟩
    · rw [zI_toInt k4.1 k4.2, hyt] at c2
      exact ⟨Or.inr rfl, hy (by unfold letG; simp; omega)⟩
set_option maxRecDepth 100000 in
theorem s_letsGo {Γ : AMG} {Q : QQ} {d k p : Nat} {x y : Int32} {r : Int} {I : II} {Lg : LJ} {R : RR} {gc : Nat → Nat} {l : List MC} {S : PS} {e : EV} (hl : MCsok l) (hm : CMAt I l) (hp : PlanAt I p S) (hes : EVsok l S.1) (hx : x = zI k) (hyr : y = zI r) (hr0 : 0 ≤ r) (hr1 : r < 4) (he : S.1[k]? = some e)
    (hy : letG l r e = true → Q (some (vI (zI 1))) I Lg R (GM gc)) (hn : letG l r e = false → Q (some (vI (zI 0))) I Lg R (GM gc)) : am_Sp Γ (d + 2) 0 0 mX5_letsGo [vR 5 0, vR 8 p, vI x, vI y] I Lg R (GM gc) Q := by
  obtain ⟨-, -, e1, e2, -⟩ := hes.2 k e he
  have hlen := hl.1
  have hyt : y.toInt = r := by rw [hyr, zI_toInt (by omega) (by omega)]
  have i6 := mof_get e1 e2
  obtain ⟨k0, k1, k2, k3, k4, k5, k6, k7, k8⟩ := hl.2 _ _ i6
  have hx1 : zI e.2.1 = zI ((e.2.1.toNat : Nat) : Int) := by congr 1; omega
  refine am_run vX5_letsGo 40 _ rfl rfl rfl rfl ?_
  refine s_machineOfE hp hx he ?_
  refine s_cm_kindOfE hl.1 hm hx1 i6 ?_
  refine And.intro (fun c => ?_) (fun c => ?_)
  · rw [zI_toInt (by omega) (by omega)] at c
    exact ⟨Or.inl rfl, hn (by unfold letG; simp [c])⟩
  · rw [zI_toInt (by omega) (by omega)] at c
    refine s_cm_firstOfE hl.1 hm hx1 i6 ?_
    refine And.intro (fun c2 => ?_) (fun c2 => ?_)
    · rw [zI_toInt k4.1 k4.2, hyt] at c2
      exact ⟨Or.inl rfl, hn (by unfold letG; simp [c2])⟩
    · rw [zI_toInt k4.1 k4.2, hyt] at c2
      exact ⟨Or.inr rfl, hy (by unfold letG; simp; omega)⟩
