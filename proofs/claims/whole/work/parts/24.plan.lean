/-! Plans: lists of events in the class. -/
abbrev EV : Type := Int × Int × Int
abbrev PS : Type := List EV × Bool
abbrev pvars : List Nat := [33, 34, 115, 116, 117]
def PlanAt (I : II) (p : Nat) (S : PS) : Prop := I 33 p 0 = zI S.1.length ∧ S.1.length ≤ 24 ∧ I 34 p 0 = zI (cond S.2 1 0) ∧ ∀ (k : Nat) (e : EV), S.1[k]? = some e → I 115 p k = zI e.1 ∧ I 116 p k = zI e.2.1 ∧ I 117 p k = zI e.2.2
theorem PlanAt.fr {I I' : II} {p : Nat} {S : PS} {P : Nat → Nat → Bool} (h : PlanAt I p S) (hf : FrI P I I') (hP : ∀ v ∈ pvars, P v p = false) : PlanAt I' p S := by
  obtain ⟨h1, h2, h3, h4⟩ := h
  refine ⟨by rw [hf _ _ (hP 33 (by decide))]; exact h1, h2, by rw [hf _ _ (hP 34 (by decide))]; exact h3, fun k e he => ?_⟩
  rw [hf _ _ (hP 115 (by decide)), hf _ _ (hP 116 (by decide)), hf _ _ (hP 117 (by decide))]
  exact h4 k e he
theorem PlanAt.ne {I I' : II} {p q : Nat} {S : PS} {l : List Nat} (h : PlanAt I q S) (hf : FrI (V1 l p) I I') (hne : q ≠ p) : PlanAt I' q S := h.fr hf (fun v _ => by simp [V1, hne])
theorem V1_in {l : List Nat} {p v : Nat} (h : l.elem v = true) : V1 l p v p = true := by
  unfold V1
  rw [h]
  simp
def padd (S : PS) (e : EV) : PS := if S.1.length < 24 then (S.1 ++ [e], S.2) else (S.1, true)
theorem padd_len {S : PS} {e : EV} (h : S.1.length ≤ 24) : (padd S e).1.length ≤ 24 := by
  unfold padd
  split
  · simp; omega
  · exact h
set_option maxRecDepth 100000 in
theorem s_pis {Γ : AMG} {Q : QQ} {d p : Nat} {e : Int32} {I : II} {Lg : LJ} {R : RR} {G : GG} {sz : Int} (hsz : I 33 p 0 = zI sz) (h0 : 0 ≤ sz) (h1 : sz ≤ 24)
    (hy : 0 ≤ e.toInt → e.toInt < sz → Q (some (vI (zI 1))) I Lg R G) (hn : (e.toInt < 0 ∨ sz ≤ e.toInt) → Q (some (vI (zI 0))) I Lg R G) : am_Sp Γ d 0 0 mX8_is [vR 8 p, vI e] I Lg R G Q := by
  refine am_run vX8_is 40 _ rfl rfl rfl rfl ?_
  refine And.intro (fun c1 => ?_) (fun c1 => ?_)
  · exact ⟨Or.inl rfl, hn (Or.inl c1)⟩
  · refine And.intro (fun c2 => ?_) (fun c2 => ?_)
    · rw [hsz, zI_toInt (by omega) (by omega)] at c2
      exact ⟨Or.inl rfl, hn (Or.inr c2)⟩
    · rw [hsz, zI_toInt (by omega) (by omega)] at c2
      refine And.intro (fun c3 => ?_) (fun c3 => ?_)
      · rw [zI_toInt (by omega) (by omega)] at c3
        omega
      · exact ⟨Or.inr rfl, hy c1 c2⟩
set_option maxRecDepth 100000 in
theorem s_tickOf {Γ : AMG} {Q : QQ} {d p : Nat} {e : Int32} {I : II} {Lg : LJ} {R : RR} {gc : Nat → Nat} {sz : Int} (hsz : I 33 p 0 = zI sz) (h0 : 0 ≤ sz) (h1 : sz ≤ 24)
    (hy : 0 ≤ e.toInt → e.toInt < sz → Q (some (vI (I 115 p e.toInt.toNat))) I Lg R (GM gc)) (hn : (e.toInt < 0 ∨ sz ≤ e.toInt) → Q (some (vI (zI (-1)))) I Lg R (GM gc)) : am_Sp Γ (d + 1) 0 0 mX8_tickOf [vR 8 p, vI e] I Lg R (GM gc) Q := by
  refine am_run vX8_tickOf 40 _ rfl rfl rfl rfl ?_
  refine s_pis hsz h0 h1 (fun c1 c2 => ?_) (fun c1 => ?_)
  · refine And.intro (fun c => ?_) (fun c => ?_)
    · exact absurd c (by rw [zI_toInt (by omega) (by omega)]; omega)
    · exact ⟨⟨c1, by omega⟩, hy c1 c2⟩
  · refine And.intro (fun c => ?_) (fun c => ?_)
    · exact hn c1
    · exact absurd c (by rw [zI_toInt (by omega) (by omega)]; omega)
set_option maxRecDepth 100000 in
theorem s_machineOf {Γ : AMG} {Q : QQ} {d p : Nat} {e : Int32} {I : II} {Lg : LJ} {R : RR} {gc : Nat → Nat} {sz : Int} (hsz : I 33 p 0 = zI sz) (h0 : 0 ≤ sz) (h1 : sz ≤ 24)
    (hy : 0 ≤ e.toInt → e.toInt < sz → Q (some (vI (I 116 p e.toInt.toNat))) I Lg R (GM gc)) (hn : (e.toInt < 0 ∨ sz ≤ e.toInt) → Q (some (vI (zI (-1)))) I Lg R (GM gc)) : am_Sp Γ (d + 1) 0 0 mX8_machineOf [vR 8 p, vI e] I Lg R (GM gc) Q := by
  refine am_run vX8_machineOf 40 _ rfl rfl rfl rfl ?_
  refine s_pis hsz h0 h1 (fun c1 c2 => ?_) (fun c1 => ?_)
  · refine And.intro (fun c => ?_) (fun c => ?_)
    · exact absurd c (by rw [zI_toInt (by omega) (by omega)]; omega)
    · exact ⟨⟨c1, by omega⟩, hy c1 c2⟩
  · refine And.intro (fun c => ?_) (fun c => ?_)
    · exact hn c1
    · exact absurd c (by rw [zI_toInt (by omega) (by omega)]; omega)
set_option maxRecDepth 100000 in
theorem s_numberOf {Γ : AMG} {Q : QQ} {d p : Nat} {e : Int32} {I : II} {Lg : LJ} {R : RR} {gc : Nat → Nat} {sz : Int} (hsz : I 33 p 0 = zI sz) (h0 : 0 ≤ sz) (h1 : sz ≤ 24)
    (hy : 0 ≤ e.toInt → e.toInt < sz → Q (some (vI (I 117 p e.toInt.toNat))) I Lg R (GM gc)) (hn : (e.toInt < 0 ∨ sz ≤ e.toInt) → Q (some (vI (zI (-1)))) I Lg R (GM gc)) : am_Sp Γ (d + 1) 0 0 mX8_numberOf [vR 8 p, vI e] I Lg R (GM gc) Q := by
  refine am_run vX8_numberOf 40 _ rfl rfl rfl rfl ?_
  refine s_pis hsz h0 h1 (fun c1 c2 => ?_) (fun c1 => ?_)
  · refine And.intro (fun c => ?_) (fun c => ?_)
    · exact absurd c (by rw [zI_toInt (by omega) (by omega)]; omega)
    · exact ⟨⟨c1, by omega⟩, hy c1 c2⟩
  · refine And.intro (fun c => ?_) (fun c => ?_)
    · exact hn c1
    · exact absurd c (by rw [zI_toInt (by omega) (by omega)]; omega)
/-- the three reads at an event that is there -/
theorem s_tickOfE {Γ : AMG} {Q : QQ} {d p : Nat} {x : Int32} {I : II} {Lg : LJ} {R : RR} {gc : Nat → Nat} {S : PS} {k : Nat} {e : EV} (hp : PlanAt I p S) (hx : x = zI k) (he : S.1[k]? = some e) (hq : Q (some (vI (zI e.1))) I Lg R (GM gc)) : am_Sp Γ (d + 1) 0 0 mX8_tickOf [vR 8 p, vI x] I Lg R (GM gc) Q := by
  obtain ⟨h1, h2, h3, h4⟩ := hp
  have hk : k < S.1.length := (List.getElem?_eq_some_iff.mp he).1
  have hxt : x.toInt = k := by rw [hx, zI_toInt (by omega) (by omega)]
  exact s_tickOf h1 (by omega) (by omega) (fun _ _ => by rw [hxt, Int.toNat_natCast, (h4 k e he).1]; exact hq) (fun c => by omega)
theorem s_machineOfE {Γ : AMG} {Q : QQ} {d p : Nat} {x : Int32} {I : II} {Lg : LJ} {R : RR} {gc : Nat → Nat} {S : PS} {k : Nat} {e : EV} (hp : PlanAt I p S) (hx : x = zI k) (he : S.1[k]? = some e) (hq : Q (some (vI (zI e.2.1))) I Lg R (GM gc)) : am_Sp Γ (d + 1) 0 0 mX8_machineOf [vR 8 p, vI x] I Lg R (GM gc) Q := by
  obtain ⟨h1, h2, h3, h4⟩ := hp
  have hk : k < S.1.length := (List.getElem?_eq_some_iff.mp he).1
  have hxt : x.toInt = k := by rw [hx, zI_toInt (by omega) (by omega)]
  exact s_machineOf h1 (by omega) (by omega) (fun _ _ => by rw [hxt, Int.toNat_natCast, (h4 k e he).2.1]; exact hq) (fun c => by omega)
theorem s_numberOfE {Γ : AMG} {Q : QQ} {d p : Nat} {x : Int32} {I : II} {Lg : LJ} {R : RR} {gc : Nat → Nat} {S : PS} {k : Nat} {e : EV} (hp : PlanAt I p S) (hx : x = zI k) (he : S.1[k]? = some e) (hq : Q (some (vI (zI e.2.2))) I Lg R (GM gc)) : am_Sp Γ (d + 1) 0 0 mX8_numberOf [vR 8 p, vI x] I Lg R (GM gc) Q := by
  obtain ⟨h1, h2, h3, h4⟩ := hp
  have hk : k < S.1.length := (List.getElem?_eq_some_iff.mp he).1
  have hxt : x.toInt = k := by rw [hx, zI_toInt (by omega) (by omega)]
  exact s_numberOf h1 (by omega) (by omega) (fun _ _ => by rw [hxt, Int.toNat_natCast, (h4 k e he).2.2]; exact hq) (fun c => by omega)
set_option maxRecDepth 100000 in
theorem s_padd {Γ : AMG} {Q : QQ} {d p : Nat} {xt xm xn : Int32} {t m n : Int} {I : II} {Lg : LJ} {R : RR} {gc : Nat → Nat} {S : PS} (hp : PlanAt I p S) (ht : xt = zI t) (hm : xm = zI m) (hn : xn = zI n)
    (h : ∀ I' : II, FrI (V1 pvars p) I I' → PlanAt I' p (padd S (t, m, n)) → Q none I' Lg R (GM gc)) : am_Sp Γ d 0 0 mX8_add [vR 8 p, vI xt, vI xm, vI xn] I Lg R (GM gc) Q := by
  subst ht
  subst hm
  subst hn
  have hp0 := hp
  obtain ⟨h1, h2, h3, h4⟩ := hp
  refine am_run vX8_add 60 _ rfl rfl rfl rfl ?_
  have full : 24 ≤ S.1.length → Q none (up3 I 34 p 0 (zI 1)) Lg R (GM gc) := fun hl => by
    refine h _ (FrI.rf.up (V1_in rfl)) ?_
    unfold padd
    rw [if_neg (by omega)]
    refine ⟨by rw [up3_v _ (by decide)]; exact h1, h2, by rw [up3_s]; rfl, fun k e he => ?_⟩
    rw [up3_v _ (by decide), up3_v _ (by decide), up3_v _ (by decide)]
    exact h4 k e he
  refine And.intro (fun c => ?_) (fun c => ?_)
  · rw [h1, zI_toInt (by omega) (by omega)] at c
    omega
  · refine And.intro (fun c2 => ?_) (fun c2 => ?_)
    · rw [h1, zI_toInt (by omega) (by omega), zI_toInt (by omega) (by omega)] at c2
      refine And.intro ⟨by rw [h1, zI_toInt (by omega) (by omega)]; omega, by rw [h1, zI_toInt (by omega) (by omega)]; omega⟩ ?_
      have hs : (I 33 p 0).toInt.toNat = S.1.length := by rw [h1, zI_toInt (by omega) (by omega)]; omega
      refine And.intro ⟨by rw [up3_v _ (by decide), h1, zI_toInt (by omega) (by omega)]; omega, by rw [up3_v _ (by decide), h1, zI_toInt (by omega) (by omega)]; omega⟩ ?_
      refine And.intro ⟨by rw [up3_v _ (by decide), up3_v _ (by decide), h1, zI_toInt (by omega) (by omega)]; omega, by rw [up3_v _ (by decide), up3_v _ (by decide), h1, zI_toInt (by omega) (by omega)]; omega⟩ ?_
      refine h _ ((((FrI.rf.up (V1_in rfl)).up (V1_in rfl)).up (V1_in rfl)).up (V1_in rfl)) ?_
      unfold padd
      rw [if_pos (by omega)]
      refine ⟨?_, by simp; omega, ?_, fun k e he => ?_⟩
      · rw [up3_s, up3_v _ (by decide), up3_v _ (by decide), up3_v _ (by decide), h1, zI_add]
        simp
      · rw [up3_v _ (by decide), up3_v _ (by decide), up3_v _ (by decide), up3_v _ (by decide)]
        exact h3
      · have hsz1 : up3 I 115 p (I 33 p 0).toInt.toNat (zI t) 33 p 0 = I 33 p 0 := by rw [up3_v _ (by decide)]
        have hs2 : (I 33 p 0).toNatClampNeg = S.1.length := hs
        simp [up3_a, hs2]
        rw [List.getElem?_append] at he
        by_cases hk : k < S.1.length
        · rw [if_pos hk] at he
          rw [if_neg (by omega), if_neg (by omega), if_neg (by omega)]
          exact h4 k e he
        · rw [if_neg hk] at he
          have hk2 : k = S.1.length := by
            have : k - S.1.length < 1 := (List.getElem?_eq_some_iff.mp he).1
            omega
          subst hk2
          simp at he
          subst he
          simp
    · rw [h1, zI_toInt (by omega) (by omega), zI_toInt (by omega) (by omega)] at c2
      exact ⟨Or.inr rfl, full (by omega)⟩
set_option maxRecDepth 100000 in
theorem s_pclear {Γ : AMG} {Q : QQ} {d p : Nat} {I : II} {Lg : LJ} {R : RR} {G : GG} (h : ∀ I' : II, FrI (V1 pvars p) I I' → PlanAt I' p ([], false) → Q none I' Lg R G) : am_Sp Γ d 0 0 mX8_clear [vR 8 p] I Lg R G Q := by
  refine am_run vX8_clear 40 _ rfl rfl rfl rfl ?_
  refine And.intro (Or.inl rfl) ?_
  refine h _ ((FrI.rf.up (V1_in rfl)).up (V1_in rfl)) ⟨by rw [up3_v _ (by decide), up3_s]; rfl, by simp, by rw [up3_s]; rfl, fun k e he => by simp at he⟩
