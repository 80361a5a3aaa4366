/-! made in the class: which columns a row comes to at no loss. -/
def BF (n f : Nat) (T : Nat → Nat → Prop) (st : Nat → Int) (ro : Nat → Nat) (sn fr qu : Nat → Int) (ρ : Nat → Nat) (len : Nat) : Prop :=
  (∀ k, k < len → ∃ j : Nat, j < n ∧ qu k = j ∧ sn j ≠ 0 ∧ ρ j = k) ∧
  (∀ j, j < n → sn j ≠ 0 → ρ j < len ∧ qu (ρ j) = j ∧ st j = 0 ∧ ((fr j = -1 ∧ T f j) ∨ ∃ m : Nat, m < n ∧ fr j = m ∧ sn m ≠ 0 ∧ ρ m < ρ j ∧ T (ro m) j)) ∧ ∀ j, sn j = 0 ∨ sn j = 1
/-- of the columns below b, what that row can have at no loss is reached -/
def BCl (n : Nat) (T : Nat → Nat → Prop) (st sn : Nat → Int) (r b : Nat) : Prop := ∀ j, j < b → j < n → st j = 0 → T r j → sn j ≠ 0
section BFS
variable {n f : Nat} {T : Nat → Nat → Prop} {st sn fr qu : Nat → Int} {ro co : Nat → Nat} {ρ : Nat → Nat} {len : Nat}
theorem BF.room (h : BF n f T st ro sn fr qu ρ len) {b : Nat} (hb : b < n) (hs : sn b = 0) : len < n := by
  have := pig n (len + 1) (fun k => if k < len then (qu k).toNat else b) (fun k hk => ?_) (fun k l hk hl e => ?_)
  · omega
  · show (if k < len then (qu k).toNat else b) < n
    by_cases g : k < len
    · rw [if_pos g]
      obtain ⟨j, h1, h2, _⟩ := h.1 k g
      omega
    · rw [if_neg g]; exact hb
  · have e : (if k < len then (qu k).toNat else b) = (if l < len then (qu l).toNat else b) := e
    by_cases g1 : k < len <;> by_cases g2 : l < len
    · rw [if_pos g1, if_pos g2] at e
      obtain ⟨j1, a1, a2, a3, a4⟩ := h.1 k g1
      obtain ⟨j2, b1, b2, b3, b4⟩ := h.1 l g2
      have : j1 = j2 := by omega
      rw [this] at a4
      omega
    · rw [if_pos g1, if_neg g2] at e
      obtain ⟨j1, a1, a2, a3, a4⟩ := h.1 k g1
      have : j1 = b := by omega
      rw [this] at a3
      exact absurd hs a3
    · rw [if_neg g1, if_pos g2] at e
      obtain ⟨j1, a1, a2, a3, a4⟩ := h.1 l g2
      have : j1 = b := by omega
      rw [this] at a3
      exact absurd hs a3
    · omega
theorem BF.le (h : BF n f T st ro sn fr qu ρ len) : len ≤ n := by
  refine pig n len (fun k => (qu k).toNat) (fun k hk => ?_) (fun k l hk hl e => ?_)
  · obtain ⟨j, h1, h2, _⟩ := h.1 k hk
    show (qu k).toNat < n
    omega
  · have e : (qu k).toNat = (qu l).toNat := e
    obtain ⟨j1, a1, a2, a3, a4⟩ := h.1 k hk
    obtain ⟨j2, b1, b2, b3, b4⟩ := h.1 l hl
    have : j1 = j2 := by omega
    rw [this] at a4
    omega
theorem BF.add (h : BF n f T st ro sn fr qu ρ len) {b : Nat} {col : Int} (hb : b < n) (hs : sn b = 0) (hst : st b = 0) (hsrc : (col = -1 ∧ T f b) ∨ ∃ m : Nat, m < n ∧ col = m ∧ sn m ≠ 0 ∧ T (ro m) b) :
    BF n f T st ro (updF sn b 1) (updF fr b col) (updF qu len b) (updN ρ b len) (len + 1) := by
  have hne : ∀ j, sn j ≠ 0 → j ≠ b := fun j hj g => hj (by rw [g]; exact hs)
  have hon : ∀ j, sn j ≠ 0 → updF sn b 1 j ≠ 0 := fun j hj => by rw [updF_n (hne j hj)]; exact hj
  have hb1 : updF sn b 1 b ≠ 0 := by rw [updF_s]; omega
  refine ⟨fun k hk => ?_, fun j hj hsj => ?_, fun j => ?_⟩
  · by_cases g : k = len
    · exact ⟨b, hb, by rw [g, updF_s], hb1, by rw [updN_s, g]⟩
    · obtain ⟨j, a1, a2, a3, a4⟩ := h.1 k (by omega)
      exact ⟨j, a1, by rw [updF_n g]; exact a2, hon j a3, by rw [updN_n (hne j a3)]; exact a4⟩
  · by_cases g : j = b
    · rw [g, updN_s, updF_s, updF_s]
      refine ⟨by omega, rfl, hst, hsrc.imp id ?_⟩
      rintro ⟨m, a1, a2, a3, a4⟩
      exact ⟨m, a1, a2, hon m a3, by rw [updN_n (hne m a3)]; exact (h.2.1 m a1 a3).1, a4⟩
    · rw [updF_n g] at hsj
      obtain ⟨a1, a2, a3, a4⟩ := h.2.1 j hj hsj
      rw [updN_n g, updF_n g, updF_n (show ρ j ≠ len by omega)]
      refine ⟨by omega, a2, a3, a4.imp id ?_⟩
      rintro ⟨m, b1, b2, b3, b4, b5⟩
      exact ⟨m, b1, b2, hon m b3, by rw [updN_n (hne m b3)]; exact b4, b5⟩
  · by_cases g : j = b
    · rw [g, updF_s]; exact Or.inr rfl
    · rw [updF_n g]; exact h.2.2 j
theorem BCl.grow {r b a : Nat} (h : BCl n T st sn r b) : BCl n T st (updF sn a 1) r b := fun j h1 h2 h3 h4 => by
  by_cases g : j = a
  · rw [g, updF_s]; omega
  · rw [updF_n g]; exact h j h1 h2 h3 h4
theorem BCl.next {r b : Nat} (h : BCl n T st sn r b) (hb : st b = 0 → T r b → sn b ≠ 0) : BCl n T st sn r (b + 1) := fun j h1 h2 h3 h4 => by
  by_cases g : j = b
  · rw [g] at h3 h4 ⊢
    exact hb h3 h4
  · exact h j (by omega) h2 h3 h4
/-- the tree, as the chain wants it -/
theorem BF.tree (h : BF n f T st ro sn fr qu ρ len) {k : Nat} : FLtr n f (fun j => st j = 0) T (fun j => (ro j : Int)) fr (fun j => j < n ∧ sn j ≠ 0) ρ k := by
  intro j hj _
  obtain ⟨a1, a2, a3, a4⟩ := h.2.1 j hj.1 hj.2
  refine ⟨hj.1, a3, a4.imp id ?_⟩
  rintro ⟨m, b1, b2, b3, b4, b5⟩
  exact ⟨m, ro m, b1, b2, ⟨b1, b3⟩, b4, rfl, b5⟩
/-- what isn't reached can't be had -/
theorem BF.no (h : BF n f T st ro sn fr qu ρ len) (hm : PMok n ro co) {e w : Nat} (he : e < n) (hw : w < n) (hf : f = ro e) (hste : st e ≠ 0) (hstw : st w = 0) (hsw : sn w = 0) (hcf : BCl n T st sn f n) (hcl : ∀ k, k < len → ∀ m : Nat, qu k = m → BCl n T st sn (ro m) n)
    {τ : Nat → Nat} (h1 : ∀ j, j < n → τ j < n) (h2 : ∀ i j, i < n → j < n → τ i = τ j → i = j) (h3 : ∀ j, j < n → st j ≠ 0 → j ≠ e → τ j = ro j) (h4 : ∀ j, j < n → T (τ j) j) : τ e ≠ ro w := by
  intro hτ
  have sur : ∀ r, r < n → ∃ j, j < n ∧ τ j = r := fun r hr => by
    apply Classical.byContradiction
    intro hno
    have := pig n (n + 1) (fun j => if j = n then r else τ j) (fun j hj => ?_) (fun i j hi hj q => ?_)
    · omega
    · show (if j = n then r else τ j) < n
      by_cases g : j = n
      · rw [if_pos g]; exact hr
      · rw [if_neg g]; exact h1 j (by omega)
    · have q : (if i = n then r else τ i) = (if j = n then r else τ j) := q
      by_cases g1 : i = n <;> by_cases g2 : j = n
      · omega
      · rw [if_pos g1, if_neg g2] at q
        exact absurd ⟨j, by omega, q.symm⟩ hno
      · rw [if_neg g1, if_pos g2] at q
        exact absurd ⟨i, by omega, q⟩ hno
      · rw [if_neg g1, if_neg g2] at q
        exact h2 i j (by omega) (by omega) q
  have inj : ∀ i j, i < n → j < n → ro i = ro j → i = j := fun i j hi hj q => hm.inj hi hj q
  -- the rows that were gone through
  let rw_ : Nat → Nat := fun k => if k = 0 then f else ro (qu (k - 1)).toNat
  have row0 : rw_ 0 = f := if_pos rfl
  have rowS : ∀ k m : Nat, k < len → qu k = m → rw_ (k + 1) = ro m := fun k m hk q => by
    show (if k + 1 = 0 then f else ro (qu (k + 1 - 1)).toNat) = ro m
    rw [if_neg (by omega), show k + 1 - 1 = k by omega, q, Int.toNat_natCast]
  have get : ∀ k, k < len + 1 → ∃ j, j < n ∧ τ j = rw_ k ∧ sn j ≠ 0 := fun k hk => by
    have hcases : (k = 0) ∨ ∃ l m : Nat, k = l + 1 ∧ l < len ∧ m < n ∧ qu l = m ∧ sn m ≠ 0 := by
      cases k with
      | zero => exact Or.inl rfl
      | succ l =>
        obtain ⟨m, a1, a2, a3, _⟩ := h.1 l (by omega)
        exact Or.inr ⟨l, m, rfl, by omega, a1, a2, a3⟩
    rcases hcases with g | ⟨l, m, g, g1, g2, g3, g4⟩
    · rw [g, row0]
      obtain ⟨j, d1, d2⟩ := sur f (by rw [hf]; exact (hm.1 e he).1)
      refine ⟨j, d1, d2, hcf j d1 d1 ?_ (by rw [← d2]; exact h4 j d1)⟩
      apply Classical.byContradiction
      intro hs
      by_cases q : j = e
      · rw [q, hτ, hf] at d2
        have := inj w e hw he d2
        rw [this] at hstw
        exact hste hstw
      · have := h3 j d1 hs q
        rw [this, hf] at d2
        exact q (inj j e d1 he d2)
    · rw [g, rowS l m g1 g3]
      obtain ⟨j, d1, d2⟩ := sur (ro m) (hm.1 m g2).1
      refine ⟨j, d1, d2, hcl l g1 m g3 j d1 d1 ?_ (by rw [← d2]; exact h4 j d1)⟩
      apply Classical.byContradiction
      intro hs
      by_cases q : j = e
      · rw [q, hτ] at d2
        have := inj w m hw g2 d2
        rw [this] at hsw
        exact g4 hsw
      · have := h3 j d1 hs q
        rw [this] at d2
        have := inj j m d1 g2 d2
        rw [this] at hs
        exact hs (h.2.1 m g2 g4).2.2.1
  have rinj : ∀ k l, k < len + 1 → l < len + 1 → rw_ k = rw_ l → k = l := by
    have half : ∀ k l, k < l → l < len + 1 → rw_ k = rw_ l → False := fun k l hkl hl q => by
      obtain ⟨l', rfl⟩ : ∃ l', l = l' + 1 := ⟨l - 1, by omega⟩
      obtain ⟨m, a1, a2, a3, a4⟩ := h.1 l' (by omega)
      rw [rowS l' m (by omega) a2] at q
      cases k with
      | zero =>
        rw [row0, hf] at q
        have := inj e m he a1 q
        rw [← this] at a3
        exact hste (h.2.1 e he a3).2.2.1
      | succ k =>
        obtain ⟨m2, b1, b2, b3, b4⟩ := h.1 k (by omega)
        rw [rowS k m2 (by omega) b2] at q
        have := inj m2 m b1 a1 q
        rw [this] at b4
        omega
    intro k l hk hl q
    rcases Nat.lt_trichotomy k l with g | g | g
    · exact (half k l g hl q).elim
    · exact g
    · exact (half l k g hk q.symm).elim
  have := pig len (len + 1) (fun k => if g : k < len + 1 then ρ (Classical.choose (get k g)) else 0) (fun k hk => ?_) (fun k l hk hl q => ?_)
  · omega
  · show (if g : k < len + 1 then ρ (Classical.choose (get k g)) else 0) < len
    rw [dif_pos hk]
    obtain ⟨d1, _, d3⟩ := Classical.choose_spec (get k hk)
    exact (h.2.1 _ d1 d3).1
  · have q : (if g : k < len + 1 then ρ (Classical.choose (get k g)) else 0) = (if g : l < len + 1 then ρ (Classical.choose (get l g)) else 0) := q
    rw [dif_pos hk, dif_pos hl] at q
    obtain ⟨d1, d2, d3⟩ := Classical.choose_spec (get k hk)
    obtain ⟨e1, e2, e3⟩ := Classical.choose_spec (get l hl)
    have a := (h.2.1 _ d1 d3).2.1
    have b := (h.2.1 _ e1 e3).2.1
    rw [q, b] at a
    have a : Classical.choose (get l hl) = Classical.choose (get k hk) := by omega
    refine rinj k l hk hl ?_
    rw [← d2, ← e2, a]
end BFS
section CREACH
variable {Γ : AMG} {Q : QQ} {d n : Nat} {I : II} {Lg : LJ} {R : RR} {gc : Nat → Nat} {c : Nat → Nat → Int} {p q : Nat → Int}
set_option maxRecDepth 100000 in
theorem s_isFree {row j : Nat} {x1 x2 : Int32} (hn : n ≤ 28) (hr : row < n) (hj : j < n) (hx1 : x1 = zI row) (hx2 : x2 = zI j) (hc : CostAt I n c) (hcb : ∀ r j, -9999 ≤ c r j ∧ c r j ≤ 1000000) (hp : RA I 92 n p) (hpb : smallF n p) (hq : RA I 93 n q) (hqb : smallF n q)
    (h1 : p row + q j = c row j → Q (some (vI (zI 1))) I Lg R (GM gc)) (h0 : p row + q j ≠ c row j → Q (some (vI (zI 0))) I Lg R (GM gc)) :
    am_Sp Γ (d + 1) 0 0 mX3_isFree [vR 3 0, vI x1, vI x2] I Lg R (GM gc) Q := by
  have h1t : x1.toInt = row := by rw [hx1, zI_toInt (by omega) (by omega)]
  have h2t : x2.toInt = j := by rw [hx2, zI_toInt (by omega) (by omega)]
  have b1 := hpb row hr
  have b2 := hqb j hj
  have b4 := hcb row j
  have hv : (I 177 x1.toInt.toNat x2.toInt.toNat - I 92 0 x1.toInt.toNat - I 93 0 x2.toInt.toNat).toInt = c row j - p row - q j := by
    rw [h1t, h2t, Int.toNat_natCast, Int.toNat_natCast, hc row j hr hj, hp row hr, hq j hj, zI_sub, zI_sub, zI_toInt (by omega) (by omega)]
  refine am_runN vX3_isFree 17 _ rfl rfl rfl rfl ?_
  refine And.intro ⟨by omega, by omega⟩ ?_
  refine And.intro ⟨by omega, by omega⟩ ?_
  refine And.intro ⟨by omega, by omega⟩ ?_
  refine And.intro ⟨by omega, by omega⟩ ?_
  refine And.intro (fun z => ?_) (fun z => ?_)
  · have z : (I 177 x1.toInt.toNat x2.toInt.toNat - I 92 0 x1.toInt.toNat - I 93 0 x2.toInt.toNat).toInt ≠ 0 := z
    rw [hv] at z
    refine am_goN vX3_isFree 5 ?_
    refine And.intro (Or.inl rfl) ?_
    exact h0 (by omega)
  · have z : (I 177 x1.toInt.toNat x2.toInt.toNat - I 92 0 x1.toInt.toNat - I 93 0 x2.toInt.toNat).toInt = 0 := z
    rw [hv] at z
    refine am_goN vX3_isFree 5 ?_
    refine And.intro (Or.inr rfl) ?_
    exact h1 (by omega)
abbrev rcv : List Nat := [98, 97, 100]
set_option maxRecDepth 100000 in
theorem s_reaches {f w : Nat} {x1 x2 : Int32} {st : Nat → Int} {ro co : Nat → Nat} (hn : n ≤ 28) (hsd : I 18 0 0 = zI n) (hfn : f < n) (hwn : w < n) (hx1 : x1 = zI f) (hx2 : x2 = zI w) (hc : CostAt I n c) (hcb : ∀ r j, -9999 ≤ c r j ∧ c r j ≤ 1000000) (hp : RA I 92 n p) (hpb : smallF n p) (hq : RA I 93 n q) (hqb : smallF n q)
    (hst : RA I 99 n st) (hst1 : ∀ j, st j = 0 ∨ st j = 1) (hro : RA I 95 n (fun j => (ro j : Int))) (hm : PMok n ro co)
    (h1 : ∀ (I' : II) (sn fr qu : Nat → Int) (ρ : Nat → Nat) (len : Nat), FrI (V0 rcv) I I' → RA I' 97 n fr → BF n f (fun r j => p r + q j = c r j) st ro sn fr qu ρ len → sn w ≠ 0 → Q (some (vI (zI 1))) I' Lg R (GM gc))
    (h0 : ∀ (I' : II) (sn fr qu : Nat → Int) (ρ : Nat → Nat) (len : Nat), FrI (V0 rcv) I I' → BF n f (fun r j => p r + q j = c r j) st ro sn fr qu ρ len → sn w = 0 → BCl n (fun r j => p r + q j = c r j) st sn f n → (∀ k, k < len → ∀ m : Nat, qu k = m → BCl n (fun r j => p r + q j = c r j) st sn (ro m) n) → Q (some (vI (zI 0))) I' Lg R (GM gc)) :
    am_Sp Γ (d + 2) 0 0 mX3_reaches [vR 3 0, vI x1, vI x2] I Lg R (GM gc) Q := by
  have h1t : x1.toInt = f := by rw [hx1, zI_toInt (by omega) (by omega)]
  have h2t : x2.toInt = w := by rw [hx2, zI_toInt (by omega) (by omega)]
  -- the end
  have fin : ∀ (x3 x4 x5 x6 : Int32) (l7 : Option AV) (I1 : II) (sn : Nat → Int), RA I1 98 n sn → (∀ j, sn j = 0 ∨ sn j = 1) → (sn w ≠ 0 → Q (some (vI (zI 1))) I1 Lg R (GM gc)) → (sn w = 0 → Q (some (vI (zI 0))) I1 Lg R (GM gc)) →
      am_J Γ mX3_reaches Q (d + 2) 0 0 174 [some (vR 3 0), some (vI x1), some (vI x2), some (vI x3), some (vI x4), some (vI x5), some (vI x6), l7] [] I1 Lg R (GM gc) := by
    intro x3 x4 x5 x6 l7 I1 sn hs hs01 k1 k0
    have hw01 := hs01 w
    refine am_goN vX3_reaches 5 ?_
    refine And.intro ⟨by omega, by omega⟩ ?_
    refine And.intro (fun z => ?_) (fun z => ?_)
    · rw [h2t, Int.toNat_natCast, hs w hwn, zI_toInt (by omega) (by omega)] at z
      refine am_goN vX3_reaches 5 ?_
      refine And.intro (Or.inl rfl) ?_
      exact k0 z
    · rw [h2t, Int.toNat_natCast, hs w hwn, zI_toInt (by omega) (by omega)] at z
      refine am_goN vX3_reaches 5 ?_
      refine And.intro (Or.inr rfl) ?_
      exact k1 z
  -- one row gone through
  have inner : ∀ (row i : Nat) (col : Int) (x4 x5 x6 : Int32), row < n → x4 = zI row → x5 = zI col →
      ∀ (m b : Nat) (x3 x7 : Int32) (I1 : II) (sn fr qu : Nat → Int) (ρ : Nat → Nat) (len : Nat), b + m = n → x3 = zI len → x7 = zI b → FrI (V0 rcv) I I1 → RA I1 98 n sn → RA I1 97 n fr → RA I1 100 n qu → BF n f (fun r j => p r + q j = c r j) st ro sn fr qu ρ len →
        ((col = -1 ∧ row = f) ∨ ∃ m : Nat, m < n ∧ col = m ∧ sn m ≠ 0 ∧ ro m = row) → BCl n (fun r j => p r + q j = c r j) st sn row b →
        (∀ (x3 x7 : Int32) (I2 : II) (sn2 fr2 qu2 : Nat → Int) (ρ2 : Nat → Nat) (len2 : Nat), x3 = zI len2 → FrI (V0 rcv) I I2 → RA I2 98 n sn2 → RA I2 97 n fr2 → RA I2 100 n qu2 → BF n f (fun r j => p r + q j = c r j) st ro sn2 fr2 qu2 ρ2 len2 → len ≤ len2 → (∀ k, k < len → qu2 k = qu k) → (∀ j, sn j ≠ 0 → sn2 j ≠ 0) → BCl n (fun r j => p r + q j = c r j) st sn2 row n →
          am_J Γ mX3_reaches Q (d + 2) 0 0 134 [some (vR 3 0), some (vI x1), some (vI x2), some (vI x3), some (vI x4), some (vI x5), some (vI x6), some (vI x7)] [] I2 Lg R (GM gc)) →
        am_J Γ mX3_reaches Q (d + 2) 0 0 54 [some (vR 3 0), some (vI x1), some (vI x2), some (vI x3), some (vI x4), some (vI x5), some (vI x6), some (vI x7)] [] I1 Lg R (GM gc) := by
    intro row i col x4 x5 x6 hrow hx4 hx5 m
    induction m with
    | zero =>
      intro b x3 x7 I1 sn fr qu ρ len hb hx3 hx7 f1 w1 w2 w3 hB hcol hcl K
      have eb : b = n := by omega
      subst eb
      have h7t : x7.toInt = b := by rw [hx7, zI_toInt (by omega) (by omega)]
      refine am_goN vX3_reaches 4 ?_
      refine And.intro (fun _ => ?_) (fun z => ?_)
      · exact K x3 x7 I1 sn fr qu ρ len hx3 f1 w1 w2 w3 hB (Nat.le_refl _) (fun _ _ => rfl) (fun _ h => h) hcl
      · rw [h7t, f1 18 _ rfl, hsd, zI_toInt (by omega) (by omega)] at z
        omega
    | succ m ih =>
      intro b x3 x7 I1 sn fr qu ρ len hb hx3 hx7 f1 w1 w2 w3 hB hcol hcl K
      have hbn : b < n := by omega
      have h7t : x7.toInt = b := by rw [hx7, zI_toInt (by omega) (by omega)]
      have hsb := hB.2.2 b
      have htb := hst1 b
      have v1 : I1 99 0 b = zI (st b) := by rw [f1 99 _ rfl]; exact hst b hbn
      have hlen := hB.le
      have h3t : x3.toInt = len := by rw [hx3, zI_toInt (by omega) (by omega)]
      -- the column stays as it is
      have skip : (st b = 0 → p row + q b = c row b → sn b ≠ 0) → am_J Γ mX3_reaches Q (d + 2) 0 0 128 [some (vR 3 0), some (vI x1), some (vI x2), some (vI x3), some (vI x4), some (vI x5), some (vI x6), some (vI x7)] [] I1 Lg R (GM gc) := by
        intro hno
        refine am_goN vX3_reaches 5 ?_
        refine fun y ey => ?_
        exact ih (b + 1) x3 y I1 sn fr qu ρ len (by omega) hx3 (by rw [ey, hx7, zI_add]; congr 1) f1 w1 w2 w3 hB hcol (hcl.next hno) K
      refine am_goN vX3_reaches 4 ?_
      refine And.intro (fun z => ?_) (fun _ => ?_)
      · rw [h7t, f1 18 _ rfl, hsd, zI_toInt (by omega) (by omega)] at z
        omega
      refine am_goN vX3_reaches 5 ?_
      refine And.intro ⟨by omega, by omega⟩ ?_
      refine And.intro (fun z => ?_) (fun z => ?_)
      · rw [h7t, Int.toNat_natCast, w1 b hbn, zI_toInt (by omega) (by omega)] at z
        exact skip (fun _ _ => z)
      rw [h7t, Int.toNat_natCast, w1 b hbn, zI_toInt (by omega) (by omega)] at z
      refine am_goN vX3_reaches 5 ?_
      refine And.intro ⟨by omega, by omega⟩ ?_
      refine And.intro (fun z2 => ?_) (fun z2 => ?_)
      · rw [h7t, Int.toNat_natCast, v1, zI_toInt (by omega) (by omega)] at z2
        exact skip (fun g => absurd g z2)
      rw [h7t, Int.toNat_natCast, v1, zI_toInt (by omega) (by omega)] at z2
      refine am_goN vX3_reaches 5 ?_
      refine s_isFree hn hrow hbn hx4 hx7 (hc.fr f1 (fun _ => rfl)) hcb (hp.fr f1 rfl) hpb (hq.fr f1 rfl) hqb (fun hT => ?_) (fun hT => ?_)
      rotate_left
      · refine And.intro (fun _ => ?_) (fun z3 => absurd rfl z3)
        exact skip (fun _ g => absurd g hT)
      refine And.intro (fun z3 => ?_) (fun _ => ?_)
      · rw [zI_toInt (by omega) (by omega)] at z3
        omega
      have hroom := hB.room hbn z
      refine am_goN vX3_reaches 3 ?_
      refine And.intro (fun z3 => ?_) (fun _ => ?_)
      · rw [h3t, zI_toInt (by omega) (by omega)] at z3
        omega
      refine am_goN vX3_reaches 18 ?_
      refine And.intro ⟨by omega, by omega⟩ ?_
      refine fun y1 ey1 I2 e2 => ?_
      refine And.intro ⟨by omega, by omega⟩ ?_
      refine fun y2 ey2 I3 e3 => ?_
      refine And.intro ⟨by omega, by omega⟩ ?_
      refine fun y3 ey3 I4 e4 => ?_
      refine fun x3' ex3 x7' ex7 => ?_
      rw [h7t, Int.toNat_natCast] at e2 e3
      rw [h3t, Int.toNat_natCast] at e4
      have f2 : FrI (V0 [98]) I1 I2 := by rw [e2]; exact FrI.rf.up rfl
      have f3 : FrI (V0 [97]) I2 I3 := by rw [e3]; exact FrI.rf.up rfl
      have f4 : FrI (V0 [100]) I3 I4 := by rw [e4]; exact FrI.rf.up rfl
      have hsrc : (col = -1 ∧ p f + q b = c f b) ∨ ∃ m : Nat, m < n ∧ col = m ∧ sn m ≠ 0 ∧ p (ro m) + q b = c (ro m) b := by
        rcases hcol with ⟨g1, g2⟩ | ⟨m, g1, g2, g3, g4⟩
        · exact Or.inl ⟨g1, by rw [← g2]; exact hT⟩
        · exact Or.inr ⟨m, g1, g2, g3, by rw [g4]; exact hT⟩
      have hB2 := hB.add hbn z z2 hsrc
      have hon : ∀ j, sn j ≠ 0 → updF sn b 1 j ≠ 0 := fun j hj => by
        by_cases g : j = b
        · rw [g, updF_s]; omega
        · rw [updF_n g]; exact hj
      refine ih (b + 1) x3' x7' I4 _ _ _ _ (len + 1) (by omega) (by rw [ex3, hx3, zI_add]; congr 1) (by rw [ex7, hx7, zI_add]; congr 1) (((f1.tr (f2.lst (by decide))).tr (f3.lst (by decide))).tr (f4.lst (by decide))) (((w1.up e2 (z := 1) ey1).fr f3 rfl).fr f4 rfl) (((w2.fr f2 rfl).up e3 (z := col) (by rw [ey2, hx5])).fr f4 rfl) (((w3.fr f2 rfl).fr f3 rfl).up e4 (z := b) (by rw [ey3, hx7])) hB2 ?_ (hcl.grow.next (fun _ _ => by rw [updF_s]; omega)) ?_
      · rcases hcol with g | ⟨m, g1, g2, g3, g4⟩
        · exact Or.inl g
        · exact Or.inr ⟨m, g1, g2, hon m g3, g4⟩
      · intro x3 x7 I2 sn2 fr2 qu2 ρ2 len2 a1 a2 a3 a4 a5 a6 a7 a8 a9 a10
        refine K x3 x7 I2 sn2 fr2 qu2 ρ2 len2 a1 a2 a3 a4 a5 a6 (by omega) (fun k hk => ?_) (fun j hj => a9 j (hon j hj)) a10
        rw [a8 k (by omega), if_neg (by omega)]
  -- row after row
  have outer : ∀ (m i row : Nat) (col : Int) (x3 x4 x5 x6 : Int32) (l7 : Option AV) (I1 : II) (sn fr qu : Nat → Int) (ρ : Nat → Nat) (len : Nat), i + m = n + 1 → i ≤ len → row < n → x3 = zI len → x4 = zI row → x5 = zI col → x6 = zI i → FrI (V0 rcv) I I1 → RA I1 98 n sn → RA I1 97 n fr → RA I1 100 n qu → BF n f (fun r j => p r + q j = c r j) st ro sn fr qu ρ len →
      ((i = 0 ∧ col = -1 ∧ row = f) ∨ (0 < i ∧ ∃ m : Nat, m < n ∧ col = m ∧ sn m ≠ 0 ∧ ro m = row ∧ qu (i - 1) = m)) → (0 < i → BCl n (fun r j => p r + q j = c r j) st sn f n) → (∀ k, k + 1 < i → ∀ m : Nat, qu k = m → BCl n (fun r j => p r + q j = c r j) st sn (ro m) n) →
      am_J Γ mX3_reaches Q (d + 2) 0 0 19 [some (vR 3 0), some (vI x1), some (vI x2), some (vI x3), some (vI x4), some (vI x5), some (vI x6), l7] [] I1 Lg R (GM gc) := by
    intro m
    induction m with
    | zero =>
      intro i row col x3 x4 x5 x6 l7 I1 sn fr qu ρ len him hil _ _ _ _ _ _ _ _ _ hB
      have := hB.le
      omega
    | succ m ih =>
      intro i row col x3 x4 x5 x6 l7 I1 sn fr qu ρ len him hil hrow hx3 hx4 hx5 hx6 f1 w1 w2 w3 hB hcol hc0 hcS
      have hlen := hB.le
      have h6t : x6.toInt = i := by rw [hx6, zI_toInt (by omega) (by omega)]
      have h4t : x4.toInt = row := by rw [hx4, zI_toInt (by omega) (by omega)]
      have hs01 := hB.2.2
      have hw01 := hs01 w
      refine am_goN vX3_reaches 4 ?_
      refine And.intro (fun z => ?_) (fun _ => ?_)
      · rw [h6t, f1 18 _ rfl, hsd, zI_toInt (by omega) (by omega)] at z
        omega
      refine am_goN vX3_reaches 5 ?_
      refine And.intro ⟨by omega, by omega⟩ ?_
      refine And.intro (fun z => ?_) (fun z => ?_)
      · rw [h2t, Int.toNat_natCast, w1 w hwn, zI_toInt (by omega) (by omega)] at z
        exact fin _ _ _ _ _ I1 sn w1 hs01 (fun g => h1 I1 sn fr qu ρ len f1 w2 hB g) (fun g => absurd g z)
      rw [h2t, Int.toNat_natCast, w1 w hwn, zI_toInt (by omega) (by omega)] at z
      refine am_goN vX3_reaches 2 ?_
      refine And.intro (fun z3 => ?_) (fun _ => ?_)
      · omega
      refine am_goN vX3_reaches 4 ?_
      refine And.intro (fun z3 => ?_) (fun _ => ?_)
      · rw [h4t, f1 18 _ rfl, hsd, zI_toInt (by omega) (by omega)] at z3
        omega
      refine am_goN vX3_reaches 2 ?_
      refine fun x7 ex7 => ?_
      refine inner row i col x4 x5 x6 hrow hx4 hx5 n 0 x3 x7 I1 sn fr qu ρ len (by omega) hx3 ex7 f1 w1 w2 w3 hB ?_ (fun j hj => absurd hj (Nat.not_lt_zero _)) ?_
      · rcases hcol with ⟨_, g2, g3⟩ | ⟨_, m2, g1, g2, g3, g4, _⟩
        · exact Or.inl ⟨g2, g3⟩
        · exact Or.inr ⟨m2, g1, g2, g3, g4⟩
      intro x3 x7 I2 sn2 fr2 qu2 ρ2 len2 hx3 f2 v1 v2 v3 hB2 hll hqu hsn hcl
      have hlen2 := hB2.le
      have h3t : x3.toInt = len2 := by rw [hx3, zI_toInt (by omega) (by omega)]
      have up : ∀ {r : Nat}, BCl n (fun r j => p r + q j = c r j) st sn r n → BCl n (fun r j => p r + q j = c r j) st sn2 r n := fun g j a1 a2 a3 a4 => hsn j (g j a1 a2 a3 a4)
      have hf2 : BCl n (fun r j => p r + q j = c r j) st sn2 f n := by
        rcases hcol with ⟨_, _, g3⟩ | ⟨g0, _⟩
        · rw [← g3]; exact hcl
        · exact up (hc0 g0)
      have hS2 : ∀ k, k + 1 < i + 1 → ∀ m : Nat, qu2 k = m → BCl n (fun r j => p r + q j = c r j) st sn2 (ro m) n := by
        intro k hk m2 hm2
        rw [hqu k (by omega)] at hm2
        by_cases g : k + 1 < i
        · exact up (hcS k g m2 hm2)
        · rcases hcol with ⟨g0, _⟩ | ⟨g0, m3, a1, a2, a3, a4, a5⟩
          · omega
          · rw [show i - 1 = k by omega, hm2] at a5
            have : m2 = m3 := by omega
            rw [this, a4]
            exact hcl
      refine am_goN vX3_reaches 3 ?_
      refine And.intro (fun z3 => ?_) (fun z3 => ?_)
      · rw [h3t, h6t] at z3
        refine fin _ _ _ _ _ I2 sn2 v1 hB2.2.2 (fun g => h1 I2 sn2 fr2 qu2 ρ2 len2 f2 v2 hB2 g) (fun g => h0 I2 sn2 fr2 qu2 ρ2 len2 f2 hB2 g hf2 (fun k hk m2 hm2 => hS2 k (by omega) m2 hm2))
      rw [h3t, h6t] at z3
      obtain ⟨m2, a1, a2, a3, a4⟩ := hB2.1 i (by omega)
      refine am_goN vX3_reaches 3 ?_
      refine And.intro (fun _ => ?_) (fun z4 => ?_)
      rotate_left
      · rw [h6t, zI_toInt (by omega) (by omega)] at z4
        omega
      refine am_goN vX3_reaches 12 ?_
      refine And.intro ⟨by omega, by omega⟩ ?_
      refine fun x5' ex5 => ?_
      have ex5 : x5' = zI m2 := by rw [ex5, h6t, Int.toNat_natCast, v3 i (by omega), a2]
      have h5t : x5'.toInt = m2 := by rw [ex5, zI_toInt (by omega) (by omega)]
      refine And.intro ⟨by omega, by omega⟩ ?_
      refine fun x4' ex4 => ?_
      refine fun x6' ex6 => ?_
      refine ih (i + 1) (ro m2) m2 x3 x4' x5' x6' _ I2 sn2 fr2 qu2 ρ2 len2 (by omega) (by omega) (hm.1 m2 a1).1 hx3 ?_ ex5 (by rw [ex6, hx6, zI_add]; congr 1) f2 v1 v2 v3 hB2 (Or.inr ⟨by omega, m2, a1, rfl, a3, rfl, a2⟩) (fun _ => hf2) (fun k hk m3 hm3 => hS2 k hk m3 hm3)
      rw [ex4, h5t, Int.toNat_natCast, f2 95 _ rfl]
      exact hro m2 a1
  refine am_runN vX3_reaches 20 _ rfl rfl rfl rfl ?_
  refine s_fill (c := 30) (i := 0) (N := 28) (v := 98) rfl (by omega) (fun I1 g1 => ?_)
  refine fun x3 e3 x4 e4 x5 e5 x6 e6 => ?_
  have f1 := FrI.fill g1
  exact outer (n + 1) 0 f (-1) x3 x4 x5 x6 _ I1 (fun _ => 0) _ _ (fun _ => 0) 0 (by omega) (Nat.le_refl _) hfn e3 (by rw [e4, hx1]) e5 e6 (f1.lst (by decide)) (RA.fill g1 rfl hn) (RA.self I1 _ _) (RA.self I1 _ _) ⟨fun k hk => absurd hk (Nat.not_lt_zero _), fun j _ hs => absurd rfl hs, fun _ => Or.inl rfl⟩ (Or.inl ⟨rfl, rfl, rfl⟩) (fun g => absurd g (Nat.lt_irrefl _)) (fun k hk => absurd hk (Nat.not_lt_zero _))
end CREACH
