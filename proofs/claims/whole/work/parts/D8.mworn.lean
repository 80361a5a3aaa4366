/-! worn of the reference: the order of the sets. -/
def lowB (off : Nat) : Bool := off == 0 || (List.range 12).any (fun p => off % 2 ^ (p + 1) == 2 ^ p && decide (zI (off : Int) &&& -zI (off : Int) = zI ((2 ^ p : Nat) : Int)))
theorem lowB_all : (List.range 4096).all lowB = true := by decide +kernel
theorem low_bit {off : Nat} (h : off < 4096) (h0 : off ≠ 0) : ∃ p, p < 12 ∧ zI (off : Int) &&& -zI (off : Int) = zI ((2 ^ p : Nat) : Int) ∧ off.testBit p = true ∧ ∀ q, q < p → off.testBit q = false := by
  have h1 := List.all_eq_true.mp lowB_all off (List.mem_range.mpr h)
  unfold lowB at h1
  rw [Bool.or_eq_true, beq_iff_eq] at h1
  obtain ⟨p, hp, h2⟩ := List.any_eq_true.mp (h1.resolve_left h0)
  rw [Bool.and_eq_true, beq_iff_eq, decide_eq_true_iff] at h2
  have tb : ∀ q, q < p + 1 → off.testBit q = (2 ^ p).testBit q := fun q hq => by
    rw [← h2.1, Nat.testBit_mod_two_pow, decide_eq_true hq, Bool.true_and]
  refine ⟨p, List.mem_range.mp hp, h2.2, ?_, fun q hq => ?_⟩
  · rw [tb p (by omega), Nat.testBit_two_pow_self]
  · rw [tb q (by omega), Nat.testBit_two_pow]
    exact decide_eq_false (by omega)
theorem and_pow2 (a p : Nat) : a &&& 2 ^ p = (a.testBit p).toNat * 2 ^ p := by
  refine Nat.eq_of_testBit_eq (fun q => ?_)
  rw [Nat.testBit_and, Nat.testBit_two_pow]
  by_cases h : p = q
  · subst h
    rw [decide_eq_true rfl, Bool.and_true]
    cases a.testBit p with
    | true => rw [Bool.toNat_true, Nat.one_mul, Nat.testBit_two_pow_self]
    | false => rw [Bool.toNat_false, Nat.zero_mul, Nat.zero_testBit]
  · rw [decide_eq_false h, Bool.and_false]
    cases a.testBit p with
    | true => rw [Bool.toNat_true, Nat.one_mul, Nat.testBit_two_pow, decide_eq_false h]
    | false => rw [Bool.toNat_false, Nat.zero_mul, Nat.zero_testBit]
/-- the reference's test of the first place where two sets differ -/
theorem low_test {a b : Nat} (ha : a < 4096) (hb : b < 4096) (hne : a ≠ b) : ((zI (a : Int) &&& (zI ((a ^^^ b : Nat) : Int) &&& -zI ((a ^^^ b : Nat) : Int))).toInt = 0 → preL b a) ∧ ((zI (a : Int) &&& (zI ((a ^^^ b : Nat) : Int) &&& -zI ((a ^^^ b : Nat) : Int))).toInt ≠ 0 → preL a b) := by
  have hx : a ^^^ b < 4096 := Nat.xor_lt_two_pow (n := 12) ha hb
  have h0 : a ^^^ b ≠ 0 := fun z => hne (Nat.eq_of_testBit_eq (fun q => by
    have := Nat.testBit_xor a b q
    rw [z, Nat.zero_testBit] at this
    cases ha : a.testBit q <;> cases hb : b.testBit q <;> rw [ha, hb] at this <;> first | rfl | cases this))
  obtain ⟨p, hp, e, t1, t2⟩ := low_bit hx h0
  have hp2 : (2 : Nat) ^ p ≤ 2 ^ 12 := Nat.pow_le_pow_right (by omega) (by omega)
  rw [e, zI_andN (by omega) (by omega), and_pow2]
  rw [Nat.testBit_xor] at t1
  have t2' : ∀ q, q < p → a.testBit q = b.testBit q := fun q hq => by
    have := t2 q hq
    rw [Nat.testBit_xor] at this
    cases ha : a.testBit q <;> cases hb : b.testBit q <;> rw [ha, hb] at this <;> first | rfl | cases this
  have hpos : 0 < 2 ^ p := Nat.pow_pos (by omega)
  cases ha : a.testBit p with
  | true =>
    rw [ha] at t1
    have hb : b.testBit p = false := by cases hb : b.testBit p <;> rw [hb] at t1 <;> first | rfl | cases t1
    refine ⟨fun z => ?_, fun _ => ⟨p, ha, hb, t2'⟩⟩
    rw [Bool.toNat_true, Nat.one_mul, zI_toInt (by omega) (by omega)] at z
    omega
  | false =>
    rw [ha] at t1
    have hb : b.testBit p = true := by cases hb : b.testBit p <;> rw [hb] at t1 <;> first | rfl | cases t1
    refine ⟨fun _ => ⟨p, hb, ha, fun q hq => (t2' q hq).symm⟩, fun z => ?_⟩
    rw [Bool.toNat_false, Nat.zero_mul] at z
    exact absurd rfl z
theorem preL_asymm {a b : Nat} (h : preL a b) (h2 : preL b a) : False := by
  obtain ⟨p, p1, p2, p3⟩ := h
  obtain ⟨q, q1, q2, q3⟩ := h2
  rcases Nat.lt_trichotomy p q with z | z | z
  · have := q3 p z
    rw [p1, p2] at this
    cases this
  · subst z
    rw [p1] at q2
    cases q2
  · have := p3 q z
    rw [q1, q2] at this
    cases this
/-- behind k sets -/
def WInv (P : Nat → Prop) (ans : Int) (k : Nat) (best : Int) : Prop := ((best = -2 ∧ ∀ M, M < k → ¬ P M) ∨ ∃ b : Nat, best = b ∧ b < k ∧ P b) ∧ ∀ m : Nat, ans = m → m < k → best = m
def WAns (P : Nat → Prop) (N : Nat) (ans : Int) : Prop := (ans = -2 ∧ ∀ M : Nat, M < N → ¬ P M) ∨ ∃ m : Nat, ans = m ∧ m < N ∧ P m ∧ ∀ M : Nat, M < N → P M → M ≠ m → Better m M
theorem WInv.zero {P : Nat → Prop} {ans : Int} : WInv P ans 0 (-2) := ⟨Or.inl ⟨rfl, fun M hM => absurd hM (by omega)⟩, fun m _ hm => absurd hm (by omega)⟩
theorem WInv.fin {P : Nat → Prop} {ans best : Int} {N : Nat} (h : WInv P ans N best) (ha : WAns P N ans) : best = ans := by
  obtain ⟨h1, h2⟩ := h
  rcases ha with ⟨q1, q2⟩ | ⟨m, q1, q2, -, -⟩
  · rcases h1 with ⟨z, -⟩ | ⟨b, z1, z2, z3⟩
    · rw [z, q1]
    · exact absurd z3 (q2 b z2)
  · rw [h2 m q1 q2, q1]
theorem WInv.skip {P : Nat → Prop} {ans : Int} {k b N : Nat} (h : WInv P ans k (b : Int)) (ha : WAns P N ans) (hk : k < N) (hs : pop b < pop k ∨ (pop k = pop b ∧ preL b k)) : WInv P ans (k + 1) (b : Int) := by
  obtain ⟨h1, h2⟩ := h
  have hb : b < k ∧ P b := by
    rcases h1 with ⟨z, -⟩ | ⟨b', z1, z2, z3⟩
    · omega
    · have : b = b' := by omega
      subst this
      exact ⟨z2, z3⟩
  refine ⟨Or.inr ⟨b, rfl, by omega, hb.2⟩, fun m hm hlt => ?_⟩
  by_cases z : m < k
  · exact h2 m hm z
  · exfalso
    have hmk : m = k := by omega
    subst hmk
    rcases ha with ⟨q1, q2⟩ | ⟨m', q1, q2, q3, q4⟩
    · omega
    · have : m' = m := by omega
      subst this
      rcases q4 b (by omega) hb.2 (by omega) with y | ⟨y1, y2⟩
      · rcases hs with w | ⟨w, -⟩ <;> omega
      · rcases hs with w | ⟨-, w⟩
        · omega
        · exact preL_asymm w y2
theorem WInv.take {P : Nat → Prop} {ans best : Int} {k N : Nat} (h : WInv P ans k best) (ha : WAns P N ans) (hk : k < N) (hP : P k) (hs : best < 0 ∨ ∃ b : Nat, best = b ∧ ¬ pop b < pop k ∧ (pop k = pop b → preL k b)) : WInv P ans (k + 1) (k : Int) := by
  obtain ⟨h1, h2⟩ := h
  refine ⟨Or.inr ⟨k, rfl, by omega, hP⟩, fun m hm hlt => ?_⟩
  by_cases z : m < k
  · exfalso
    have hb := h2 m hm z
    rcases hs with w | ⟨b, w1, w2, w3⟩
    · omega
    · have : b = m := by omega
      subst this
      rcases ha with ⟨q1, q2⟩ | ⟨m', q1, q2, q3, q4⟩
      · omega
      · have : m' = b := by omega
        subst this
        rcases q4 k hk hP (by omega) with y | ⟨y1, y2⟩
        · exact w2 y
        · exact preL_asymm (w3 y1.symm) y2
  · omega
theorem WInv.pass {P : Nat → Prop} {ans best : Int} {k N : Nat} (h : WInv P ans k best) (ha : WAns P N ans) (hP : ¬ P k) : WInv P ans (k + 1) best := by
  obtain ⟨h1, h2⟩ := h
  refine ⟨?_, fun m hm hlt => ?_⟩
  · rcases h1 with ⟨z1, z2⟩ | ⟨b, z1, z2, z3⟩
    · refine Or.inl ⟨z1, fun M hM => ?_⟩
      by_cases q : M = k
      · subst q; exact hP
      · exact z2 M (by omega)
    · exact Or.inr ⟨b, z1, by omega, z3⟩
  · by_cases z : m < k
    · exact h2 m hm z
    · exfalso
      have : m = k := by omega
      subst this
      rcases ha with ⟨q1, q2⟩ | ⟨m', q1, q2, q3, q4⟩
      · omega
      · have : m' = m := by omega
        subst this
        exact hP q3
