/-! machine. -/
theorem app_get {α : Type} {l : List α} {x y : α} {k : Nat} (h : (l ++ [x])[k]? = some y) : (k = l.length ∧ y = x) ∨ (k ≠ l.length ∧ l[k]? = some y) := by
  by_cases hk : k = l.length
  · subst hk
    rw [List.getElem?_append_right (Nat.le_refl _), Nat.sub_self] at h
    cases h
    exact Or.inl ⟨rfl, rfl⟩
  · have hlt : k < l.length := by
      have := (List.getElem?_eq_some_iff.mp h).1
      rw [List.length_append] at this
      simp at this
      omega
    rw [List.getElem?_append_left hlt] at h
    exact Or.inr ⟨hk, h⟩
def standOk (rn : Nat → RUN) (k a b : Int) : Prop := (k = 0 → ∃ r : Nat, r < 4 ∧ a = r ∧ 0 < (rn r).length) ∧ (k = 4 → ∃ r : Nat, r < 4 ∧ a = r ∧ 0 ≤ b ∧ b < (rn r).length) ∧ (k = 1 → 1 ≤ a ∧ a ≤ 99 ∧ 1 ≤ b ∧ b ≤ 200)
set_option maxRecDepth 100000 in
theorem s_canStand {Γ : AMG} {Q : QQ} {d : Nat} {x1 x2 x3 : Int32} {I : II} {Lg : LJ} {R : RR} {gc : Nat → Nat} {rn : Nat → RUN} (hrn : RNSok rn) (hc : CRunsAt I R rn) (hk0 : 0 ≤ x1.toInt) (hk1 : x1.toInt ≤ 4)
    (hy : standOk rn x1.toInt x2.toInt x3.toInt → Q (some (vI (zI 1))) I Lg R (GM gc)) (hn : ¬ standOk rn x1.toInt x2.toInt x3.toInt → Q (some (vI (zI 0))) I Lg R (GM gc)) : am_Sp Γ (d + 2) 0 0 mX11_canStand [vR 11 0, vI x1, vI x2, vI x3] I Lg R (GM gc) Q := by
  have hst : ∀ r, r < 4 → (I 32 r 0).toInt = (rn r).length := fun r hr => by
    have := (hrn r hr).1
    rw [(hc r hr).1, zI_toInt (by omega) (by omega)]
  have hnr : ((x2.toInt < 0 ∨ 4 ≤ x2.toInt) ∨ ∃ r : Nat, r < 4 ∧ x2 = zI r ∧ (I 32 r 0).toInt = 0) → ¬ ∃ r : Nat, r < 4 ∧ x2.toInt = r ∧ 0 < (rn r).length := by
    intro hz q
    obtain ⟨r, hr, hx, hl⟩ := q
    rcases hz with hz | ⟨r', hr', hx', hz⟩
    · omega
    · rw [hx', zI_toInt (by omega) (by omega)] at hx
      have : r = r' := by omega
      subst this
      rw [hst r hr] at hz
      omega
  refine am_run vX11_canStand 60 _ rfl rfl rfl rfl ?_
  refine And.intro (fun c => ?_) (fun c => ?_)
  · refine And.intro (fun c2 => ?_) (fun c2 => ?_)
    · rw [zI_toInt (by omega) (by omega)] at c2
      refine And.intro (fun c3 => ?_) (fun c3 => ?_)
      · rw [zI_toInt (by omega) (by omega)] at c3
        exact ⟨Or.inr rfl, hy ⟨fun q => by omega, fun q => by omega, fun q => by omega⟩⟩
      · rw [zI_toInt (by omega) (by omega)] at c3
        have hk : x1.toInt = 1 := by omega
        refine s_within (fun j1 j2 => ?_) (fun j1 => ?_)
        · rw [zI_toInt (by omega) (by omega)] at j1 j2
          refine And.intro (fun c4 => ?_) (fun c4 => ?_)
          · rw [zI_toInt (by omega) (by omega)] at c4; omega
          refine s_within (fun i1 i2 => ?_) (fun i1 => ?_)
          · rw [zI_toInt (by omega) (by omega)] at i1 i2
            refine And.intro (fun c4 => ?_) (fun c4 => ?_)
            · rw [zI_toInt (by omega) (by omega)] at c4; omega
            exact ⟨Or.inr rfl, hy ⟨fun q => by omega, fun q => by omega, fun q => ⟨j1, j2, i1, i2⟩⟩⟩
          · rw [zI_toInt (by omega) (by omega), zI_toInt (by omega) (by omega)] at i1
            refine And.intro (fun c4 => ?_) (fun c4 => ?_)
            · exact ⟨Or.inl rfl, hn (fun q => by have := q.2.2 hk; omega)⟩
            · rw [zI_toInt (by omega) (by omega)] at c4; omega
        · rw [zI_toInt (by omega) (by omega), zI_toInt (by omega) (by omega)] at j1
          refine And.intro (fun c4 => ?_) (fun c4 => ?_)
          · exact ⟨Or.inl rfl, hn (fun q => by have := q.2.2 hk; omega)⟩
          · rw [zI_toInt (by omega) (by omega)] at c4; omega
    · rw [zI_toInt (by omega) (by omega)] at c2
      have hk : x1.toInt = 4 := by omega
      refine s_pathOf (fun r hr hx hz => ?_) (fun hz => ?_)
      · have hx2 : x2.toInt = r := by rw [hx, zI_toInt (by omega) (by omega)]
        have hlen := (hrn r hr).1
        have hb : (I 32 r 0 - zI 1).toInt = ((rn r).length : Int) - 1 := by rw [(hc r hr).1, zI_sub, zI_toInt (by omega) (by omega)]
        have huq : ∀ r' : Nat, x2.toInt = r' → r' = r := fun r' h => by omega
        refine s_within (fun j1 j2 => ?_) (fun j1 => ?_)
        · rw [zI_toInt (by omega) (by omega)] at j1
          rw [hb] at j2
          refine And.intro (fun c4 => ?_) (fun c4 => ?_)
          · rw [zI_toInt (by omega) (by omega)] at c4; omega
          exact ⟨Or.inr rfl, hy ⟨fun q => by omega, fun q => ⟨r, hr, hx2, j1, by omega⟩, fun q => by omega⟩⟩
        · rw [zI_toInt (by omega) (by omega), hb] at j1
          refine And.intro (fun c4 => ?_) (fun c4 => ?_)
          · refine ⟨Or.inl rfl, hn (fun q => ?_)⟩
            obtain ⟨r', _, h1, h2, h3⟩ := q.2.1 hk
            have := huq r' h1
            subst this
            omega
          · rw [zI_toInt (by omega) (by omega)] at c4; omega
      · refine ⟨Or.inl rfl, hn (fun q => ?_)⟩
        obtain ⟨r', h0, h1, h2, h3⟩ := q.2.1 hk
        exact hnr hz ⟨r', h0, h1, by omega⟩
  · have hk : x1.toInt = 0 := by omega
    refine s_pathOf (fun r hr hx hz => ?_) (fun hz => ?_)
    · have hx2 : x2.toInt = r := by rw [hx, zI_toInt (by omega) (by omega)]
      rw [hst r hr] at hz
      exact ⟨Or.inr rfl, hy ⟨fun q => ⟨r, hr, hx2, by omega⟩, fun q => by omega, fun q => by omega⟩⟩
    · exact ⟨Or.inl rfl, hn (fun q => hnr hz (q.1 hk))⟩
set_option maxRecDepth 100000 in
theorem s_cm_add {Γ : AMG} {Q : QQ} {d : Nat} {x1 x2 x3 x4 : Int32} {I : II} {Lg : LJ} {R : RR} {gc : Nat → Nat} {l : List MC} (hl : l.length < 12) (hc : CMAt I l)
    (hy : ∀ I' : II, FrI (V0 cmv) I I' → CMAt I' (l ++ [(x1.toInt, x2.toInt, x3.toInt, x4.toInt)]) → Q (some (vI (zI l.length))) I' Lg R (GM gc)) : am_Sp Γ d 0 0 mX5_add [vR 5 0, vI x1, vI x2, vI x3, vI x4] I Lg R (GM gc) Q := by
  have hst : (I 23 0 0).toInt = l.length := by rw [hc.1, zI_toInt (by omega) (by omega)]
  refine am_runN vX5_add 60 _ rfl rfl rfl rfl ?_
  refine And.intro (fun c => ?_) (fun c => ?_)
  · omega
  refine And.intro (fun c => ?_) (fun c => ?_)
  · refine And.intro ⟨by omega, by omega⟩ ?_
    refine fun y1 ey1 I1 e1 => ?_
    have n1 : I1 23 0 0 = I 23 0 0 := by rw [e1, up3_v _ (by decide)]
    refine And.intro ⟨by rw [n1]; omega, by rw [n1]; omega⟩ ?_
    refine fun y2 ey2 I2 e2 => ?_
    have n2 : I2 23 0 0 = I 23 0 0 := by rw [e2, up3_v _ (by decide), n1]
    refine And.intro ⟨by rw [n2]; omega, by rw [n2]; omega⟩ ?_
    refine fun y3 ey3 I3 e3 => ?_
    have n3 : I3 23 0 0 = I 23 0 0 := by rw [e3, up3_v _ (by decide), n2]
    refine And.intro ⟨by rw [n3]; omega, by rw [n3]; omega⟩ ?_
    refine fun y4 ey4 I4 e4 y5 ey5 I5 e5 => ?_
    have n4 : I4 23 0 0 = I 23 0 0 := by rw [e4, up3_v _ (by decide), n3]
    rw [hst, Int.toNat_natCast] at e1
    rw [n1, hst, Int.toNat_natCast] at e2
    rw [n2, hst, Int.toNat_natCast] at e3
    rw [n3, hst, Int.toNat_natCast] at e4
    have hsz : I5 23 0 0 = zI (l.length + 1 : Nat) := by rw [e5, up3_s, ey5, n4, hc.1, zI_add]; congr 1
    have := hy I5 (by rw [e5, e4, e3, e2, e1]; exact ((((FrI.rf.up rfl).up rfl).up rfl).up rfl).up rfl) ⟨by rw [hsz, List.length_append]; rfl, fun k e he => ?_⟩
    · rw [show zI (l.length : Int) = I5 23 0 0 - zI 1 by rw [hsz, zI_sub]; congr 1; omega] at this
      exact this
    · rw [e5, up3_v _ (by decide), up3_v _ (by decide), up3_v _ (by decide), up3_v _ (by decide), e4, up3_v _ (by decide), up3_v _ (by decide), up3_v _ (by decide), e3, up3_v _ (by decide), up3_v _ (by decide), e2, up3_v _ (by decide), e1]
      rcases app_get he with ⟨hk, hv⟩ | ⟨hk, hv⟩
      · subst hk
        subst hv
        refine ⟨?_, ?_, ?_, ?_⟩
        · rw [up3_s, ey1, zI_self]
        · rw [up3_s, ey2, zI_self]
        · rw [up3_s, ey3, zI_self]
        · rw [up3_s, ey4, zI_self]
      · obtain ⟨q1, q2, q3, q4⟩ := hc.2 k e hv
        refine ⟨?_, ?_, ?_, ?_⟩
        · rw [up3_j _ hk]; exact q1
        · rw [up3_j _ hk, up3_v _ (by decide)]; exact q2
        · rw [up3_j _ hk, up3_v _ (by decide), up3_v _ (by decide)]; exact q3
        · rw [up3_j _ hk, up3_v _ (by decide), up3_v _ (by decide), up3_v _ (by decide)]; exact q4
  · rw [hst, zI_toInt (by omega) (by omega)] at c
    omega
def machOk (rn : Nat → RUN) (k x a b : Int) : Prop := 0 ≤ k ∧ k ≤ 4 ∧ 0 ≤ x ∧ x ≤ 99 ∧ standOk rn k a b
set_option maxRecDepth 100000 in
theorem s_machine {Γ : AMG} {Q : QQ} {d : Nat} {x1 x2 x3 x4 : Int32} {I : II} {Lg : LJ} {R : RR} {gc : Nat → Nat} {rn : Nat → RUN} {l : List MC} (hrn : RNSok rn) (hr : CRunsAt I R rn) (hl : l.length ≤ 12) (hc : CMAt I l)
    (h2 : l.length = 12 → Q (some (vI (zI (-2)))) I Lg R (GM gc))
    (h3 : l.length < 12 → ¬ (0 ≤ x1.toInt ∧ x1.toInt ≤ 4 ∧ 0 ≤ x2.toInt ∧ x2.toInt ≤ 99) → Q (some (vI (zI (-3)))) I Lg R (GM gc))
    (h4 : l.length < 12 → (0 ≤ x1.toInt ∧ x1.toInt ≤ 4 ∧ 0 ≤ x2.toInt ∧ x2.toInt ≤ 99) → ¬ standOk rn x1.toInt x3.toInt x4.toInt → Q (some (vI (zI (-4)))) I Lg R (GM gc))
    (hy : l.length < 12 → (0 ≤ x1.toInt ∧ x1.toInt ≤ 4 ∧ 0 ≤ x2.toInt ∧ x2.toInt ≤ 99) → standOk rn x1.toInt x3.toInt x4.toInt → ∀ I' : II, FrI (V0 cmv) I I' → CMAt I' (l ++ [(x1.toInt, x2.toInt, x3.toInt, x4.toInt)]) → Q (some (vI (zI l.length))) I' Lg R (GM gc)) :
    am_Sp Γ (d + 3) 0 0 mX11_machine [vR 11 0, vI x1, vI x2, vI x3, vI x4] I Lg R (GM gc) Q := by
  have hst : (I 23 0 0).toInt = l.length := by rw [hc.1, zI_toInt (by omega) (by omega)]
  refine am_run vX11_machine 60 _ rfl rfl rfl rfl ?_
  refine And.intro (fun c => ?_) (fun c => ?_)
  · rw [hst, zI_toInt (by omega) (by omega)] at c
    replace c : l.length < 12 := by omega
    refine s_within (fun j1 j2 => ?_) (fun j1 => ?_)
    · rw [zI_toInt (by omega) (by omega)] at j1 j2
      refine And.intro (fun c4 => ?_) (fun c4 => ?_)
      · rw [zI_toInt (by omega) (by omega)] at c4; omega
      refine s_within (fun i1 i2 => ?_) (fun i1 => ?_)
      · rw [zI_toInt (by omega) (by omega)] at i1 i2
        refine And.intro (fun c4 => ?_) (fun c4 => ?_)
        · refine s_canStand hrn hr j1 j2 (fun hs => ?_) (fun hs => ?_)
          · refine And.intro (fun c5 => ?_) (fun c5 => ?_)
            · exact s_cm_add c hc (fun I' f' c' => hy c ⟨j1, j2, i1, i2⟩ hs I' f' c')
            · rw [zI_toInt (by omega) (by omega)] at c5; omega
          · refine And.intro (fun c5 => ?_) (fun c5 => ?_)
            · rw [zI_toInt (by omega) (by omega)] at c5; omega
            · exact h4 c ⟨j1, j2, i1, i2⟩ hs
        · rw [zI_toInt (by omega) (by omega)] at c4; omega
      · rw [zI_toInt (by omega) (by omega), zI_toInt (by omega) (by omega)] at i1
        refine And.intro (fun c4 => ?_) (fun c4 => ?_)
        · rw [zI_toInt (by omega) (by omega)] at c4; omega
        · exact h3 c (fun q => by omega)
    · rw [zI_toInt (by omega) (by omega), zI_toInt (by omega) (by omega)] at j1
      refine And.intro (fun c4 => ?_) (fun c4 => ?_)
      · exact h3 c (fun q => by omega)
      · rw [zI_toInt (by omega) (by omega)] at c4; omega
  · rw [hst, zI_toInt (by omega) (by omega)] at c
    exact h2 (by omega)
