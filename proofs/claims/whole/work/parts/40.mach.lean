/-! Machines. -/
/-- a machine: kind, place, two numbers -/
abbrev MC : Type := Int × Int × Int × Int
def MCok (e : MC) : Prop := 0 ≤ e.1 ∧ e.1 ≤ 4 ∧ 0 ≤ e.2.1 ∧ e.2.1 ≤ 99 ∧ (-2147483648 ≤ e.2.2.1 ∧ e.2.2.1 < 2147483648) ∧ (-2147483648 ≤ e.2.2.2 ∧ e.2.2.2 < 2147483648) ∧ (e.1 = 1 → 1 ≤ e.2.2.1 ∧ e.2.2.1 ≤ 99 ∧ 1 ≤ e.2.2.2 ∧ e.2.2.2 ≤ 200) ∧ (e.1 = 0 ∨ e.1 = 4 → 0 ≤ e.2.2.1 ∧ e.2.2.1 < 4) ∧ (e.1 = 4 → 0 ≤ e.2.2.2 ∧ e.2.2.2 < 12)
def MCsok (l : List MC) : Prop := l.length ≤ 12 ∧ ∀ (k : Nat) (e : MC), l[k]? = some e → MCok e
abbrev cmv : List Nat := [23, 105, 106, 107, 108]
def CMAt (I : II) (l : List MC) : Prop := I 23 0 0 = zI l.length ∧ ∀ (k : Nat) (e : MC), l[k]? = some e → I 105 0 k = zI e.1 ∧ I 106 0 k = zI e.2.1 ∧ I 107 0 k = zI e.2.2.1 ∧ I 108 0 k = zI e.2.2.2
abbrev mmv : List Nat := [59, 142, 143, 144, 145]
def MMAt (I : II) (l : List MC) : Prop := I 59 0 0 = zI l.length ∧ ∀ (k : Nat) (e : MC), l[k]? = some e → I 142 0 k = zI e.1 ∧ I 143 0 k = zI e.2.1 ∧ I 144 0 k = zI e.2.2.1 ∧ I 145 0 k = zI e.2.2.2
theorem CMAt.fr {I I' : II} {P : Nat → Nat → Bool} {l : List MC} (h : CMAt I l) (hf : FrI P I I') (hP : ∀ v ∈ cmv, P v 0 = false) : CMAt I' l := by
  refine ⟨by rw [hf _ _ (hP _ (by decide))]; exact h.1, fun k e he => ?_⟩
  obtain ⟨h1, h2, h3, h4⟩ := h.2 k e he
  refine ⟨?_, ?_, ?_, ?_⟩ <;> rw [hf _ _ (hP _ (by decide))] <;> assumption
theorem MMAt.fr {I I' : II} {P : Nat → Nat → Bool} {l : List MC} (h : MMAt I l) (hf : FrI P I I') (hP : ∀ v ∈ mmv, P v 0 = false) : MMAt I' l := by
  refine ⟨by rw [hf _ _ (hP _ (by decide))]; exact h.1, fun k e he => ?_⟩
  obtain ⟨h1, h2, h3, h4⟩ := h.2 k e he
  refine ⟨?_, ?_, ?_, ?_⟩ <;> rw [hf _ _ (hP _ (by decide))] <;> assumption
def tks (e : MC) (n : Int) : Int := if e.1 = 1 then 4 * n else if e.1 = 2 then n else 1
def wth (e : MC) (n : Int) : Int := if e.1 = 0 ∨ e.1 = 4 then 1 else n
def leastN (e : MC) : Int := if e.1 = 0 ∨ e.1 = 4 then 0 else 1
def mostN (e : MC) : Int := if e.1 = 0 then 9999 else if e.1 = 2 then 500 else if e.1 = 4 then 1 else 99
set_option maxRecDepth 100000 in
theorem s_cmis {Γ : AMG} {Q : QQ} {d : Nat} {x : Int32} {I : II} {Lg : LJ} {R : RR} {G : GG} {l : List MC} (hl : l.length ≤ 12) (hsz : I 23 0 0 = zI l.length)
    (hy : 0 ≤ x.toInt → x.toInt < l.length → Q (some (vI (zI 1))) I Lg R G) (hn : (x.toInt < 0 ∨ (l.length : Int) ≤ x.toInt) → Q (some (vI (zI 0))) I Lg R G) : am_Sp Γ d 0 0 mX5_is [vR 5 0, vI x] I Lg R G Q := by
  have hst : (I 23 0 0).toInt = l.length := by rw [hsz, zI_toInt (by omega) (by omega)]
  refine am_run vX5_is 40 _ rfl rfl rfl rfl ?_
  refine And.intro (fun c1 => ?_) (fun c1 => ?_)
  · exact ⟨Or.inl rfl, hn (Or.inl c1)⟩
  · refine And.intro (fun c2 => ?_) (fun c2 => ?_)
    · rw [hst] at c2
      exact ⟨Or.inl rfl, hn (Or.inr c2)⟩
    · rw [hst] at c2
      refine And.intro (fun c3 => ?_) (fun c3 => ?_)
      · rw [zI_toInt (by omega) (by omega)] at c3
        omega
      · exact ⟨Or.inr rfl, hy (by omega) c2⟩

set_option maxRecDepth 100000 in
theorem s_cm_kindOf {Γ : AMG} {Q : QQ} {d : Nat} {x : Int32} {I : II} {Lg : LJ} {R : RR} {gc : Nat → Nat} {l : List MC} (hl : l.length ≤ 12) (hc : CMAt I l)
    (hy : ∀ e : MC, 0 ≤ x.toInt → l[x.toInt.toNat]? = some e → Q (some (vI (zI e.1))) I Lg R (GM gc)) (hn : (x.toInt < 0 ∨ (l.length : Int) ≤ x.toInt) → Q (some (vI (zI (-1)))) I Lg R (GM gc)) : am_Sp Γ (d + 1) 0 0 mX5_kindOf [vR 5 0, vI x] I Lg R (GM gc) Q := by
  refine am_run vX5_kindOf 40 _ rfl rfl rfl rfl ?_
  refine s_cmis hl hc.1 (fun c1 c2 => ?_) (fun c1 => ?_)
  · refine And.intro (fun c => ?_) (fun c => ?_)
    · exact absurd c (by rw [zI_toInt (by omega) (by omega)]; omega)
    · refine And.intro ⟨c1, by omega⟩ ?_
      have he : l[x.toInt.toNat]? = some l[x.toInt.toNat] := List.getElem?_eq_getElem (by omega)
      generalize l[x.toInt.toNat] = e at he
      have h2 := hc.2 _ _ he
      have h3 : I 105 0 x.toInt.toNat = zI (e.1) := by obtain ⟨a, b, c, d⟩ := h2; assumption
      rw [h3]
      exact hy e c1 he
  · refine And.intro (fun c => ?_) (fun c => ?_)
    · exact hn c1
    · exact absurd c (by rw [zI_toInt (by omega) (by omega)]; omega)
theorem s_cm_kindOfE {Γ : AMG} {Q : QQ} {d k : Nat} {x : Int32} {I : II} {Lg : LJ} {R : RR} {gc : Nat → Nat} {l : List MC} {e : MC} (hl : l.length ≤ 12) (hc : CMAt I l) (hx : x = zI k) (he : l[k]? = some e)
    (hy : Q (some (vI (zI e.1))) I Lg R (GM gc)) : am_Sp Γ (d + 1) 0 0 mX5_kindOf [vR 5 0, vI x] I Lg R (GM gc) Q := by
  have hlt := (List.getElem?_eq_some_iff.mp he).1
  have hxt : x.toInt = k := by rw [hx, zI_toInt (by omega) (by omega)]
  refine s_cm_kindOf hl hc (fun e' h0 he' => ?_) (fun h => ?_)
  · rw [hxt, Int.toNat_natCast, he] at he'
    cases he'
    exact hy
  · rw [hxt] at h
    omega
set_option maxRecDepth 100000 in
theorem s_cm_placeOf {Γ : AMG} {Q : QQ} {d : Nat} {x : Int32} {I : II} {Lg : LJ} {R : RR} {gc : Nat → Nat} {l : List MC} (hl : l.length ≤ 12) (hc : CMAt I l)
    (hy : ∀ e : MC, 0 ≤ x.toInt → l[x.toInt.toNat]? = some e → Q (some (vI (zI e.2.1))) I Lg R (GM gc)) (hn : (x.toInt < 0 ∨ (l.length : Int) ≤ x.toInt) → Q (some (vI (zI (0)))) I Lg R (GM gc)) : am_Sp Γ (d + 1) 0 0 mX5_placeOf [vR 5 0, vI x] I Lg R (GM gc) Q := by
  refine am_run vX5_placeOf 40 _ rfl rfl rfl rfl ?_
  refine s_cmis hl hc.1 (fun c1 c2 => ?_) (fun c1 => ?_)
  · refine And.intro (fun c => ?_) (fun c => ?_)
    · exact absurd c (by rw [zI_toInt (by omega) (by omega)]; omega)
    · refine And.intro ⟨c1, by omega⟩ ?_
      have he : l[x.toInt.toNat]? = some l[x.toInt.toNat] := List.getElem?_eq_getElem (by omega)
      generalize l[x.toInt.toNat] = e at he
      have h2 := hc.2 _ _ he
      have h3 : I 106 0 x.toInt.toNat = zI (e.2.1) := by obtain ⟨a, b, c, d⟩ := h2; assumption
      rw [h3]
      exact hy e c1 he
  · refine And.intro (fun c => ?_) (fun c => ?_)
    · exact hn c1
    · exact absurd c (by rw [zI_toInt (by omega) (by omega)]; omega)
theorem s_cm_placeOfE {Γ : AMG} {Q : QQ} {d k : Nat} {x : Int32} {I : II} {Lg : LJ} {R : RR} {gc : Nat → Nat} {l : List MC} {e : MC} (hl : l.length ≤ 12) (hc : CMAt I l) (hx : x = zI k) (he : l[k]? = some e)
    (hy : Q (some (vI (zI e.2.1))) I Lg R (GM gc)) : am_Sp Γ (d + 1) 0 0 mX5_placeOf [vR 5 0, vI x] I Lg R (GM gc) Q := by
  have hlt := (List.getElem?_eq_some_iff.mp he).1
  have hxt : x.toInt = k := by rw [hx, zI_toInt (by omega) (by omega)]
  refine s_cm_placeOf hl hc (fun e' h0 he' => ?_) (fun h => ?_)
  · rw [hxt, Int.toNat_natCast, he] at he'
    cases he'
    exact hy
  · rw [hxt] at h
    omega
set_option maxRecDepth 100000 in
theorem s_cm_firstOf {Γ : AMG} {Q : QQ} {d : Nat} {x : Int32} {I : II} {Lg : LJ} {R : RR} {gc : Nat → Nat} {l : List MC} (hl : l.length ≤ 12) (hc : CMAt I l)
    (hy : ∀ e : MC, 0 ≤ x.toInt → l[x.toInt.toNat]? = some e → Q (some (vI (zI e.2.2.1))) I Lg R (GM gc)) (hn : (x.toInt < 0 ∨ (l.length : Int) ≤ x.toInt) → Q (some (vI (zI (-1)))) I Lg R (GM gc)) : am_Sp Γ (d + 1) 0 0 mX5_firstOf [vR 5 0, vI x] I Lg R (GM gc) Q := by
  refine am_run vX5_firstOf 40 _ rfl rfl rfl rfl ?_
  refine s_cmis hl hc.1 (fun c1 c2 => ?_) (fun c1 => ?_)
  · refine And.intro (fun c => ?_) (fun c => ?_)
    · exact absurd c (by rw [zI_toInt (by omega) (by omega)]; omega)
    · refine And.intro ⟨c1, by omega⟩ ?_
      have he : l[x.toInt.toNat]? = some l[x.toInt.toNat] := List.getElem?_eq_getElem (by omega)
      generalize l[x.toInt.toNat] = e at he
      have h2 := hc.2 _ _ he
      have h3 : I 107 0 x.toInt.toNat = zI (e.2.2.1) := by obtain ⟨a, b, c, d⟩ := h2; assumption
      rw [h3]
      exact hy e c1 he
  · refine And.intro (fun c => ?_) (fun c => ?_)
    · exact hn c1
    · exact absurd c (by rw [zI_toInt (by omega) (by omega)]; omega)
theorem s_cm_firstOfE {Γ : AMG} {Q : QQ} {d k : Nat} {x : Int32} {I : II} {Lg : LJ} {R : RR} {gc : Nat → Nat} {l : List MC} {e : MC} (hl : l.length ≤ 12) (hc : CMAt I l) (hx : x = zI k) (he : l[k]? = some e)
    (hy : Q (some (vI (zI e.2.2.1))) I Lg R (GM gc)) : am_Sp Γ (d + 1) 0 0 mX5_firstOf [vR 5 0, vI x] I Lg R (GM gc) Q := by
  have hlt := (List.getElem?_eq_some_iff.mp he).1
  have hxt : x.toInt = k := by rw [hx, zI_toInt (by omega) (by omega)]
  refine s_cm_firstOf hl hc (fun e' h0 he' => ?_) (fun h => ?_)
  · rw [hxt, Int.toNat_natCast, he] at he'
    cases he'
    exact hy
  · rw [hxt] at h
    omega
set_option maxRecDepth 100000 in
theorem s_cm_secondOf {Γ : AMG} {Q : QQ} {d : Nat} {x : Int32} {I : II} {Lg : LJ} {R : RR} {gc : Nat → Nat} {l : List MC} (hl : l.length ≤ 12) (hc : CMAt I l)
    (hy : ∀ e : MC, 0 ≤ x.toInt → l[x.toInt.toNat]? = some e → Q (some (vI (zI e.2.2.2))) I Lg R (GM gc)) (hn : (x.toInt < 0 ∨ (l.length : Int) ≤ x.toInt) → Q (some (vI (zI (-1)))) I Lg R (GM gc)) : am_Sp Γ (d + 1) 0 0 mX5_secondOf [vR 5 0, vI x] I Lg R (GM gc) Q := by
  refine am_run vX5_secondOf 40 _ rfl rfl rfl rfl ?_
  refine s_cmis hl hc.1 (fun c1 c2 => ?_) (fun c1 => ?_)
  · refine And.intro (fun c => ?_) (fun c => ?_)
    · exact absurd c (by rw [zI_toInt (by omega) (by omega)]; omega)
    · refine And.intro ⟨c1, by omega⟩ ?_
      have he : l[x.toInt.toNat]? = some l[x.toInt.toNat] := List.getElem?_eq_getElem (by omega)
      generalize l[x.toInt.toNat] = e at he
      have h2 := hc.2 _ _ he
      have h3 : I 108 0 x.toInt.toNat = zI (e.2.2.2) := by obtain ⟨a, b, c, d⟩ := h2; assumption
      rw [h3]
      exact hy e c1 he
  · refine And.intro (fun c => ?_) (fun c => ?_)
    · exact hn c1
    · exact absurd c (by rw [zI_toInt (by omega) (by omega)]; omega)
theorem s_cm_secondOfE {Γ : AMG} {Q : QQ} {d k : Nat} {x : Int32} {I : II} {Lg : LJ} {R : RR} {gc : Nat → Nat} {l : List MC} {e : MC} (hl : l.length ≤ 12) (hc : CMAt I l) (hx : x = zI k) (he : l[k]? = some e)
    (hy : Q (some (vI (zI e.2.2.2))) I Lg R (GM gc)) : am_Sp Γ (d + 1) 0 0 mX5_secondOf [vR 5 0, vI x] I Lg R (GM gc) Q := by
  have hlt := (List.getElem?_eq_some_iff.mp he).1
  have hxt : x.toInt = k := by rw [hx, zI_toInt (by omega) (by omega)]
  refine s_cm_secondOf hl hc (fun e' h0 he' => ?_) (fun h => ?_)
  · rw [hxt, Int.toNat_natCast, he] at he'
    cases he'
    exact hy
  · rw [hxt] at h
    omega
theorem dX5_takes_5 : decode mX5_takes.2.2.1 5 = .ok (.lookupswitch 33 #[(1, 27), (2, 31)], 27) := by decide +kernel
set_option maxRecDepth 100000 in
theorem s_cm_least {Γ : AMG} {Q : QQ} {d k : Nat} {x : Int32} {I : II} {Lg : LJ} {R : RR} {gc : Nat → Nat} {l : List MC} {e : MC} (hl : l.length ≤ 12) (hc : CMAt I l) (hx : x = zI k) (he : l[k]? = some e) (hk : MCok e)
    (hy : Q (some (vI (zI (leastN e)))) I Lg R (GM gc)) : am_Sp Γ (d + 2) 0 0 mX5_leastNumber [vR 5 0, vI x] I Lg R (GM gc) Q := by
  obtain ⟨k0, k1, -⟩ := hk
  refine am_run vX5_leastNumber 40 _ rfl rfl rfl rfl ?_
  refine s_cm_kindOfE hl hc hx he ?_
  unfold leastN at hy
  refine And.intro (fun c => ?_) (fun c => ?_)
  · rw [zI_toInt (by omega) (by omega)] at c
    rw [if_pos (Or.inl c)] at hy
    exact hy
  · rw [zI_toInt (by omega) (by omega)] at c
    refine And.intro (fun c2 => ?_) (fun c2 => ?_)
    · rw [zI_toInt (by omega) (by omega), zI_toInt (by omega) (by omega)] at c2
      rw [if_neg (by omega)] at hy
      exact hy
    · rw [zI_toInt (by omega) (by omega), zI_toInt (by omega) (by omega)] at c2
      rw [if_pos (by omega)] at hy
      exact hy
set_option maxRecDepth 100000 in
theorem s_cm_strength {Γ : AMG} {Q : QQ} {d k : Nat} {x y : Int32} {n : Int} {I : II} {Lg : LJ} {R : RR} {gc : Nat → Nat} {l : List MC} {e : MC} (hl : l.length ≤ 12) (hc : CMAt I l) (hx : x = zI k) (hn : y = zI n) (he : l[k]? = some e) (hk : MCok e)
    (hy : Q (some (vI (zI (wth e n)))) I Lg R (GM gc)) : am_Sp Γ (d + 2) 0 0 mX5_strength [vR 5 0, vI x, vI y] I Lg R (GM gc) Q := by
  obtain ⟨k0, k1, -⟩ := hk
  refine am_run vX5_strength 40 _ rfl rfl rfl rfl ?_
  refine s_cm_kindOfE hl hc hx he ?_
  unfold wth at hy
  refine And.intro (fun c => ?_) (fun c => ?_)
  · rw [zI_toInt (by omega) (by omega)] at c
    rw [if_pos (Or.inl c)] at hy
    exact hy
  · rw [zI_toInt (by omega) (by omega)] at c
    refine And.intro (fun c2 => ?_) (fun c2 => ?_)
    · rw [zI_toInt (by omega) (by omega), zI_toInt (by omega) (by omega)] at c2
      rw [if_neg (by omega), ← hn] at hy
      exact hy
    · rw [zI_toInt (by omega) (by omega), zI_toInt (by omega) (by omega)] at c2
      rw [if_pos (by omega)] at hy
      exact hy
set_option maxRecDepth 100000 in
theorem s_cm_most {Γ : AMG} {Q : QQ} {d k : Nat} {x : Int32} {I : II} {Lg : LJ} {R : RR} {gc : Nat → Nat} {l : List MC} {e : MC} (hl : l.length ≤ 12) (hc : CMAt I l) (hx : x = zI k) (he : l[k]? = some e) (hk : MCok e)
    (hy : Q (some (vI (zI (mostN e)))) I Lg R (GM gc)) : am_Sp Γ (d + 2) 0 0 mX5_mostNumber [vR 5 0, vI x] I Lg R (GM gc) Q := by
  obtain ⟨k0, k1, -⟩ := hk
  refine am_run vX5_mostNumber 40 _ rfl rfl rfl rfl ?_
  refine s_cm_kindOfE hl hc hx he ?_
  unfold mostN at hy
  refine And.intro (fun c => ?_) ⟨fun c => ?_, fun c => ?_, fun c => ?_, fun c => ?_, trivial⟩
  all_goals rw [zI_toInt (by omega) (by omega)] at c
  · rw [if_neg (by omega), if_neg (by omega), if_pos (by omega)] at hy
    exact hy
  · rw [if_pos (by omega)] at hy
    exact hy
  · rw [if_neg (by omega), if_neg (by omega), if_neg (by omega)] at hy
    exact hy
  · rw [if_neg (by omega), if_pos (by omega)] at hy
    exact hy
  · rw [if_neg (by omega), if_neg (by omega), if_neg (by omega)] at hy
    exact hy
set_option maxRecDepth 100000 in
theorem s_cm_takes {Γ : AMG} {Q : QQ} {d k : Nat} {x y : Int32} {n : Int} {I : II} {Lg : LJ} {R : RR} {gc : Nat → Nat} {l : List MC} {e : MC} (hl : l.length ≤ 12) (hc : CMAt I l) (hx : x = zI k) (hn : y = zI n) (he : l[k]? = some e) (hk : MCok e)
    (hy : Q (some (vI (zI (tks e n)))) I Lg R (GM gc)) : am_Sp Γ (d + 2) 0 0 mX5_takes [vR 5 0, vI x, vI y] I Lg R (GM gc) Q := by
  obtain ⟨k0, k1, -⟩ := hk
  refine am_run vX5_takes 40 _ rfl rfl rfl rfl ?_
  refine s_cm_kindOfE hl hc hx he ?_
  unfold tks at hy
  have hkt : (zI e.1).toInt = e.1 := zI_toInt (by omega) (by omega)
  by_cases h1 : e.1 = 1
  · rw [if_pos h1] at hy
    refine ar_lsw (off := 27) (tgt := 32) dX5_takes_5 (by decide) (by rw [hkt, h1]; rfl) (by decide) ?_
    refine am_go vX5_takes 20 ?_
    rw [hn]
    show Q (some (vI (zI 4 * zI n))) I Lg R (GM gc)
    rw [zI_mul]
    exact hy
  · rw [if_neg h1] at hy
    by_cases h2 : e.1 = 2
    · rw [if_pos h2] at hy
      refine ar_lsw (off := 31) (tgt := 36) dX5_takes_5 (by decide) (by rw [hkt, h2]; rfl) (by decide) ?_
      refine am_go vX5_takes 20 ?_
      rw [hn]
      exact hy
    · rw [if_neg h2] at hy
      refine ar_lsw (off := 33) (tgt := 38) dX5_takes_5 (by decide) (by rw [hkt]; simp [Op.lookupswitch.offset]; omega) (by decide) ?_
      refine am_go vX5_takes 20 ?_
      exact hy
