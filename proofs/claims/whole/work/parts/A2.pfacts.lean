/-! What keeps while a text is read. -/
theorem tok_gt {sz q : Nat} {bs : Nat → Int} (hb : BSsok sz bs) (hq : q ≤ sz) (hk : (tokA sz bs q).1 = 1 ∨ (tokA sz bs q).1 = 2 ∨ (tokA sz bs q).1 = 3) : q < (tokA sz bs q).en ∧ (tokA sz bs q).en ≤ sz := by
  obtain ⟨h1, h2, h3, h4, h5, h6, h7, h8, h9⟩ := tok_ok hb hq
  exact ⟨h7 (by omega) (by omega), h2⟩
theorem useA_ok {sz p p' : Nat} {bs : Nat → Int} {l : List MC} {e : EV} (hb : BSsok sz bs) (hl : MCsok l) (hp : p ≤ sz) (h : useA sz bs l p = .inl (p', e)) : p < p' ∧ p' ≤ sz ∧ EVv l 2000 e := by
  have hll := hl.1
  rw [useA_2] at h
  cases e1 : eNum (tokA sz bs p) 0 2000 with
  | some f => rw [e1] at h; cases h
  | none =>
    rw [e1] at h
    dsimp only at h
    obtain ⟨a1, a2, a3⟩ := eNum_k e1
    have g1 := tok_gt hb hp (Or.inr (Or.inl a1))
    generalize tokA sz bs p = t1 at *
    unfold useT2 at h
    cases e2 : eWord bs (tokA sz bs t1.en) kUse with
    | some f => rw [e2] at h; cases h
    | none =>
      rw [e2] at h
      dsimp only at h
      have g2 := tok_gt hb g1.2 (Or.inl (eWord_k e2).1)
      generalize tokA sz bs t1.en = t2 at *
      unfold useT3 at h
      cases e3 : eNum (tokA sz bs t2.en) 0 (l.length - 1) with
      | some f => rw [e3] at h; cases h
      | none =>
        rw [e3] at h
        dsimp only at h
        obtain ⟨b1, b2, b3⟩ := eNum_k e3
        have g3 := tok_gt hb g2.2 (Or.inr (Or.inl b1))
        generalize tokA sz bs t2.en = t3 at *
        unfold useT4 at h
        have hmk := hl.2 _ _ (mof_get b2 (by omega : t3.val < l.length))
        by_cases q : isW bs (tokA sz bs t3.en) kWith
        · rw [if_pos q] at h
          have g4 := tok_gt hb g3.2 (Or.inl q.1)
          generalize tokA sz bs t3.en = t4 at *
          cases e5 : eNum (tokA sz bs t4.en) (leastN (mof l t3.val)) (mostN (mof l t3.val)) with
          | some f => rw [e5] at h; cases h
          | none =>
            rw [e5] at h
            dsimp only at h
            obtain ⟨c1, c2, c3⟩ := eNum_k e5
            have g5 := tok_gt hb g4.2 (Or.inr (Or.inl c1))
            generalize tokA sz bs t4.en = t5 at *
            cases e6 : eSemi (tokA sz bs t5.en) with
            | some f => rw [e6] at h; cases h
            | none =>
              rw [e6] at h
              have g6 := tok_gt hb g5.2 (Or.inr (Or.inr (eSemi_k e6)))
              cases h
              exact ⟨by omega, g6.2, a2, a3, b2, by show t3.val < _; omega, c2, c3⟩
        · rw [if_neg q] at h
          cases e6 : eSemi (tokA sz bs t3.en) with
          | some f => rw [e6] at h; cases h
          | none =>
            rw [e6] at h
            have g6 := tok_gt hb g3.2 (Or.inr (Or.inr (eSemi_k e6)))
            cases h
            refine ⟨by omega, g6.2, a2, a3, b2, by show t3.val < _; omega, ?_, ?_⟩
            · show leastN (mof l t3.val) ≤ 1
              unfold leastN
              split <;> omega
            · show 1 ≤ mostN (mof l t3.val)
              unfold mostN
              split <;> (try split) <;> (try split) <;> omega
theorem findS_get {w : List Int} {es : LST} : ∀ ss : List (List Int × LST), findS w ss = some es → ∃ (j : Nat) (s : List Int × LST), ss[j]? = some s ∧ s.2 = es
  | [], h => by cases h
  | s :: r, h => by
    unfold findS at h
    split at h
    · exact ⟨0, s, rfl, Option.some.inj h⟩
    · obtain ⟨j, x, h1, h2⟩ := findS_get r h
      exact ⟨j + 1, x, by simpa using h1, h2⟩
theorem playA_ok {sz p p' : Nat} {bs : Nat → Int} {ss : List (List Int × LST)} {es : LST} {lt : Int} (hb : BSsok sz bs) (hp : p ≤ sz) (h : playA sz bs ss p = .inl (p', es, lt)) : p < p' ∧ p' ≤ sz ∧ (0 ≤ lt ∧ lt ≤ 2000) ∧ ∃ (j : Nat) (s : List Int × LST), ss[j]? = some s ∧ s.2 = es := by
  unfold playA at h
  by_cases q : ¬ isNm bs (tokA sz bs p)
  · rw [if_pos q] at h; cases h
  · rw [if_neg q] at h
    have q : isNm bs (tokA sz bs p) := Decidable.byContradiction q
    have g1 := tok_gt hb hp (Or.inl q.1)
    generalize tokA sz bs p = t1 at *
    cases e0 : findS (twd bs t1) ss with
    | none => rw [e0] at h; cases h
    | some es' =>
      rw [e0] at h
      dsimp only at h
      cases e2 : eWord bs (tokA sz bs t1.en) kAt with
      | some f => rw [e2] at h; cases h
      | none =>
        rw [e2] at h
        dsimp only at h
        have g2 := tok_gt hb g1.2 (Or.inl (eWord_k e2).1)
        generalize tokA sz bs t1.en = t2 at *
        cases e3 : eNum (tokA sz bs t2.en) 0 2000 with
        | some f => rw [e3] at h; cases h
        | none =>
          rw [e3] at h
          dsimp only at h
          obtain ⟨b1, b2, b3⟩ := eNum_k e3
          have g3 := tok_gt hb g2.2 (Or.inr (Or.inl b1))
          generalize tokA sz bs t2.en = t3 at *
          cases e6 : eSemi (tokA sz bs t3.en) with
          | some f => rw [e6] at h; cases h
          | none =>
            rw [e6] at h
            have g6 := tok_gt hb g3.2 (Or.inr (Or.inr (eSemi_k e6)))
            cases h
            exact ⟨by omega, g6.2, ⟨b2, b3⟩, findS_get _ e0⟩
theorem timesA_ok {sz p p' : Nat} {bs : Nat → Int} {m ev : Int} (hb : BSsok sz bs) (hp : p ≤ sz) (h : timesA sz bs p = .inl (p', m, ev)) : p < p' ∧ p' ≤ sz ∧ (1 ≤ m ∧ m ≤ 20) ∧ (1 ≤ ev ∧ ev ≤ 2000) := by
  unfold timesA at h
  cases e1 : eNum (tokA sz bs p) 1 20 with
  | some f => rw [e1] at h; cases h
  | none =>
    rw [e1] at h
    dsimp only at h
    obtain ⟨a1, a2, a3⟩ := eNum_k e1
    have g1 := tok_gt hb hp (Or.inr (Or.inl a1))
    generalize tokA sz bs p = t1 at *
    cases e2 : eWord bs (tokA sz bs t1.en) kEvery with
    | some f => rw [e2] at h; cases h
    | none =>
      rw [e2] at h
      dsimp only at h
      have g2 := tok_gt hb g1.2 (Or.inl (eWord_k e2).1)
      generalize tokA sz bs t1.en = t2 at *
      cases e3 : eNum (tokA sz bs t2.en) 1 2000 with
      | some f => rw [e3] at h; cases h
      | none =>
        rw [e3] at h
        dsimp only at h
        obtain ⟨b1, b2, b3⟩ := eNum_k e3
        have g3 := tok_gt hb g2.2 (Or.inr (Or.inl b1))
        cases h
        exact ⟨by omega, g3.2, ⟨a2, a3⟩, b2, b3⟩
theorem pieceA_ok {sz : Nat} {bs : Nat → Int} {l : List MC} {t : TK} {P P' : PP} (hb : BSsok sz bs) (hl : MCsok l) (ht : TOK sz bs t) (hok : PPok l P) (h : pieceA sz bs l t P = .inl P') : PPok l P' ∧ t.en ≤ P'.1 ∧ P'.1 ≤ sz ∧ t.1 = 1 := by
  have hen := (ht.ok hb).2.1
  have hns : (0 : Int) ≤ P.2.1.length := by omega
  have hf4 := hok.2.2.1
  unfold pieceA at h
  by_cases q1 : isW bs t kAt
  · rw [if_pos q1] at h
    cases e : useA sz bs l t.en with
    | inr f => rw [e] at h; cases h
    | inl x =>
      obtain ⟨p, ev⟩ := x
      rw [e] at h
      obtain ⟨g1, g2, g3⟩ := useA_ok hb hl hen e
      cases h
      refine ⟨hok.add (p := p) (fun x hx => ?_), Nat.le_of_lt g1, g2, q1.1⟩
      rw [List.mem_singleton] at hx
      subst hx
      exact ⟨g3.1, by have := g3.2.1; omega, g3.2.2⟩
  rw [if_neg q1] at h
  by_cases q2 : isW bs t kPlay
  · rw [if_pos q2] at h
    cases e : playA sz bs P.2.1 t.en with
    | inr f => rw [e] at h; cases h
    | inl x =>
      obtain ⟨p, es, lt⟩ := x
      rw [e] at h
      obtain ⟨g1, g2, g3, j, s, hj, hs⟩ := playA_ok hb hen e
      cases h
      refine ⟨hok.add (p := p) ?_, Nat.le_of_lt g1, g2, q2.1⟩
      have hjl := (List.getElem?_eq_some_iff.mp hj).1
      rw [← hs]
      exact ((hok.2.2.2.1 j s hj).2.2).sh g3.1 (by omega)
  rw [if_neg q2] at h
  by_cases q3 : isW bs t kTimes
  · rw [if_pos q3] at h
    by_cases q4 : P.2.2.2.2.2.length = 4
    · rw [if_pos q4] at h; cases h
    · rw [if_neg q4] at h
      cases e : timesA sz bs t.en with
      | inr f => rw [e] at h; cases h
      | inl x =>
        obtain ⟨p, m, ev⟩ := x
        rw [e] at h
        obtain ⟨g1, g2, g3, g4⟩ := timesA_ok hb hen e
        cases h
        obtain ⟨h1, h2, h3, h4, h5, h6, h7, h8⟩ := hok
        exact ⟨⟨h1, h2, by show P.2.2.2.2.2.length + 1 ≤ 4; omega, h4, h5, ⟨⟨g3.1, g3.2, g4.1, g4.2⟩, fun x hx => by (cases hx), h6⟩, h7, h8⟩, Nat.le_of_lt g1, g2, q3.1⟩
  rw [if_neg q3] at h
  by_cases q4 : isW bs t kEnd
  · rw [if_pos q4] at h
    cases hfr : P.2.2.2.2.2 with
    | cons f r =>
      rw [hfr] at h
      cases h
      have hP2 : PPok l (withL P t.en (P.2.2.2.2.1, r)) := by
        obtain ⟨h1, h2, h3, h4, h5, h6, h7, h8⟩ := hok
        rw [hfr] at h3 h6
        exact ⟨h1, h2, by show r.length ≤ 4; rw [List.length_cons] at h3; omega, h4, h5, h6.2.2, h7, h8⟩
      have hv := hok.2.2.2.2.2.1
      rw [hfr] at hv hf4
      obtain ⟨⟨v1, v2, v3, v4⟩, v5, -⟩ := hv
      refine ⟨PPok.add (P := withL P t.en (P.2.2.2.2.1, r)) (p := t.en) hP2 ?_, Nat.le_refl _, hen, q4.1⟩
      refine v5.rep (by omega) f.1.toNat (fun k hk => ?_)
      have hkk : (k : Int) ≤ 19 := by omega
      have hm := Int.mul_le_mul hkk v4 (by omega) (by omega : (0 : Int) ≤ 19)
      show 154000 * (P.2.1.length : Int) + 2000 + 38000 * (4 - ((r.length : Int) + 1)) + k * f.2.1 ≤ 154000 * (P.2.1.length : Int) + 2000 + 38000 * (4 - (r.length : Int))
      omega
    | nil =>
      rw [hfr] at h
      cases hc : P.2.2.1 with
      | none => rw [hc] at h; cases h
      | some w =>
        rw [hc] at h
        cases h
        obtain ⟨h1, h2, h3, h4, h5, h6, h7, h8⟩ := hok
        have h28 := h2 (by rw [hc]; exact fun z => by cases z)
        have hlen : (P.2.1 ++ [(w, P.2.2.2.2.1)]).length = P.2.1.length + 1 := by rw [List.length_append]; rfl
        refine ⟨⟨by show (P.2.1 ++ [(w, P.2.2.2.2.1)]).length ≤ 8; omega, fun z => absurd rfl z, by show (0 : Nat) ≤ 4; omega, fun j s hj => ?_, fun w2 hw2 => by (cases hw2), trivial, ?_, fun x hx => by (cases hx)⟩, Nat.le_refl _, hen, q4.1⟩
        · rcases app_get hj with ⟨hj1, hj2⟩ | ⟨hj1, hj2⟩
          · subst hj1
            subst hj2
            exact ⟨(h5 w hc).1, (h5 w hc).2, h7⟩
          · exact h4 j s hj2
        · refine LSv.mono (A := 154000 * ((P.2.1.length : Int) + 1)) ?_ ?_
          · exact h8
          · show _ ≤ 154000 * (((P.2.1 ++ [(w, P.2.2.2.2.1)]).length : Int) + 1)
            rw [hlen]
            omega
  rw [if_neg q4] at h
  by_cases q5 : isW bs t kStorm
  · rw [if_pos q5] at h
    cases hfr : P.2.2.2.2.2 with
    | cons f r => rw [hfr] at h; cases h
    | nil =>
      cases hc : P.2.2.1 with
      | some w => rw [hfr, hc] at h; cases h
      | none =>
        rw [hfr, hc] at h
        dsimp only at h
        by_cases q6 : P.2.1.length = 8
        · rw [if_pos q6] at h; cases h
        · rw [if_neg q6] at h
          by_cases q7 : ¬ isNm bs (tokA sz bs t.en)
          · rw [if_pos q7] at h; cases h
          · rw [if_neg q7] at h
            have q7 : isNm bs (tokA sz bs t.en) := Decidable.byContradiction q7
            by_cases q8 : (findS (twd bs (tokA sz bs t.en)) P.2.1).isSome
            · rw [if_pos q8] at h; cases h
            · rw [if_neg q8] at h
              have g := tok_gt hb hen (Or.inl q7.1)
              obtain ⟨k1, k2, k3, k4, k5, -⟩ := tok_ok hb hen
              obtain ⟨w1, w2⟩ := k5 q7.1
              cases h
              obtain ⟨h1, h2, h3, h4, h5, h6, h7, h8⟩ := hok
              refine ⟨⟨h1, fun _ => by show P.2.1.length < 8; omega, by show (0 : Nat) ≤ 4; omega, h4, fun w hw => ?_, trivial, fun x hx => by (cases hx), h7⟩, Nat.le_of_lt g.1, g.2, q5.1⟩
              have hw := Option.some.inj hw
              rw [← hw]
              exact ⟨w1, by unfold twd; rw [wdN_len]; exact w2⟩
  rw [if_neg q5] at h
  cases h
theorem PP0_ok {l : List MC} : PPok l PP0 := ⟨by decide, fun z => absurd rfl z, by decide, fun j s hj => by (simp [PP0] at hj), fun w hw => by (cases hw), trivial, fun x hx => by (cases hx), fun x hx => by (cases hx)⟩
/-- a text comes to its end -/
theorem pieceA_end {sz : Nat} {bs : Nat → Int} {l : List MC} {t : TK} {P : PP} (h : t.1 ≠ 1) : pieceA sz bs l t P = .inr (1, t.st) := by
  unfold pieceA
  rw [if_neg (fun q => h q.1), if_neg (fun q => h q.1), if_neg (fun q => h q.1), if_neg (fun q => h q.1), if_neg (fun q => h q.1)]
