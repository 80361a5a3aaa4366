/-! made in the class: one more row finds its column; pure. -/
def rch (n first : Nat) (ro sn : Nat → Int) (r : Nat) : Prop := r = first ∨ ∃ m, m < n ∧ sn m ≠ 0 ∧ ro m = r
/-- rows below k have their columns, at no loss -/
def ASok (n k : Nat) (c : Nat → Nat → Int) (p q ro co : Nat → Int) : Prop :=
  ((∀ j, j < n → (ro j = -1 ∧ q j = 0) ∨ ∃ r : Nat, ro j = r ∧ r < k ∧ co r = j ∧ p r + q j = c r j) ∧ ∀ r, r < k → ∃ j : Nat, j < n ∧ co r = j ∧ ro j = r) ∧
  (∀ r j, r < k → j < n → p r + q j ≤ c r j) ∧ (∀ r, -9999 ≤ p r ∧ p r ≤ 1000000) ∧ (∀ r, k ≤ r → p r = 0) ∧ ∀ j, j < n → -1009999 ≤ q j ∧ q j ≤ 0
def HSok (n first : Nat) (c : Nat → Nat → Int) (p q ro co sl fr sn : Nat → Int) (ρ τ : Nat → Nat) (i row : Nat) (col : Int) : Prop :=
  ((∀ j, j < n → (ro j = -1 ∧ q j = 0 ∧ sn j = 0) ∨ ∃ r : Nat, ro j = r ∧ r < first ∧ co r = j ∧ p r + q j = c r j) ∧ ∀ r, r < first → ∃ j : Nat, j < n ∧ co r = j ∧ ro j = r) ∧
  (∀ r j, (r < first ∨ r = first ∧ 0 < i) → j < n → p r + q j ≤ c r j) ∧
  ((∀ r, -9999 ≤ p r ∧ p r ≤ 1000000) ∧ (∀ r, first ≤ r → (first < r ∨ i = 0) → p r = 0) ∧ ∀ j, j < n → -1009999 ≤ q j ∧ q j ≤ 0) ∧
  (∀ j, j < n → sn j ≠ 0 → ρ j < i ∧ ((fr j = -1 ∧ p first + q j = c first j) ∨ ∃ m r : Nat, m < n ∧ fr j = m ∧ sn m ≠ 0 ∧ ρ m < ρ j ∧ ro m = r ∧ p r + q j = c r j)) ∧
  ((i = 0 ∧ row = first ∧ col = -1) ∨ (0 < i ∧ ∃ m : Nat, m < n ∧ col = m ∧ sn m ≠ 0 ∧ ro m = row)) ∧
  (∀ j, j < n → sn j = 0 → ∀ r, rch n first ro sn r → r ≠ row → sl j ≤ lft c p q r j) ∧
  (∀ j, j < n → sn j = 0 → (i = 0 ∧ sl j = 100000000) ∨ (fr j = -1 ∧ sl j = lft c p q first j) ∨ ∃ m r : Nat, m < n ∧ fr j = m ∧ sn m ≠ 0 ∧ ro m = r ∧ sl j = lft c p q r j) ∧
  ((∀ j, j < n → -3000000 ≤ sl j ∧ sl j ≤ 100000000) ∧ ∀ j, sn j = 0 ∨ sn j = 1) ∧
  ∀ k, k < i → τ k < n ∧ sn (τ k) ≠ 0 ∧ ρ (τ k) = k
section HUNG
variable {n first : Nat} {c : Nat → Nat → Int} {p q ro co sl fr sn : Nat → Int} {ρ τ : Nat → Nat} {i row : Nat} {col : Int}
theorem HSok.init (hfn : first < n) (h : ASok n first c p q ro co) (hsl : ∀ j, sl j = 100000000) (hsn : ∀ j, sn j = 0) : HSok n first c p q ro co sl fr sn ρ τ 0 first (-1) := by
  obtain ⟨⟨h1, h2⟩, h3, h4, h5, h6⟩ := h
  refine ⟨⟨fun j hj => ?_, h2⟩, fun r j hr hj => ?_, ⟨h4, fun r hr _ => h5 r hr, h6⟩, fun j _ h => absurd (hsn j) h, Or.inl ⟨rfl, rfl, rfl⟩, fun j hj _ r hr hne => ?_, fun j _ _ => Or.inl ⟨rfl, hsl j⟩, ⟨fun j _ => by rw [hsl]; omega, fun j => Or.inl (hsn j)⟩, fun k hk => absurd hk (Nat.not_lt_zero _)⟩
  · rcases h1 j hj with ⟨a, b⟩ | h
    · exact Or.inl ⟨a, b, hsn j⟩
    · exact Or.inr h
  · rcases hr with hr | ⟨_, hr⟩
    · exact h3 r j hr hj
    · omega
  · rcases hr with hr | ⟨m, _, hm, _⟩
    · exact absurd hr hne
    · exact absurd (hsn m) hm
theorem rlx_le {sl2 : Nat → Int} (e : sl2 = rlxS c p q sn sl row) (j : Nat) (h : sn j = 0) : sl2 j ≤ sl j ∧ sl2 j ≤ lft c p q row j := by
  rw [e]
  unfold rlxS
  split
  · omega
  · next g =>
    have : ¬ lft c p q row j < sl j := fun q => g ⟨h, q⟩
    omega
theorem rlx_or {sl2 fr2 : Nat → Int} (e : sl2 = rlxS c p q sn sl row) (e2 : fr2 = rlxF c p q sn sl fr row col) (j : Nat) : (sl2 j = sl j ∧ fr2 j = fr j ∧ (sn j = 0 → sl j ≤ lft c p q row j)) ∨ sn j = 0 ∧ sl2 j = lft c p q row j ∧ fr2 j = col := by
  rw [e, e2]
  unfold rlxS rlxF
  by_cases g : sn j = 0 ∧ lft c p q row j < sl j
  · rw [if_pos g, if_pos g]
    exact Or.inr ⟨g.1, rfl, rfl⟩
  · rw [if_neg g, if_neg g]
    exact Or.inl ⟨rfl, rfl, fun h => by
      have : ¬ lft c p q row j < sl j := fun q => g ⟨h, q⟩
      omega⟩
theorem HSok.rowR (h : HSok n first c p q ro co sl fr sn ρ τ i row col) : rch n first ro sn row := by
  rcases h.2.2.2.2.1 with ⟨_, e, _⟩ | ⟨_, m, h1, _, h3, h4⟩
  · exact Or.inl e
  · exact Or.inr ⟨m, h1, h3, h4⟩
theorem HSok.rle (h : HSok n first c p q ro co sl fr sn ρ τ i row col) {r : Nat} (hr : rch n first ro sn r) : r ≤ first ∧ (r < first ∨ r = first) := by
  rcases hr with hr | ⟨m, hm, hs, e⟩
  · exact ⟨by omega, Or.inr hr⟩
  · rcases h.1.1 m hm with ⟨_, _, g⟩ | ⟨r2, g1, g2, _⟩
    · exact absurd g hs
    · exact ⟨by omega, Or.inl (by omega)⟩
theorem HSok.free (h : HSok n first c p q ro co sl fr sn ρ τ i row col) (hfn : first < n) : ∃ u, u < n ∧ ro u = -1 ∧ q u = 0 ∧ sn u = 0 := by
  apply Classical.byContradiction
  intro hno
  have h1 : ∀ j, j < n → ∃ r : Nat, ro j = r ∧ r < first ∧ co r = j := fun j hj => by
    rcases h.1.1 j hj with ⟨a, b, d⟩ | ⟨r, a, b, d, _⟩
    · exact absurd ⟨j, hj, a, b, d⟩ hno
    · exact ⟨r, a, b, d⟩
  have := pig first n (fun j => (ro j).toNat) (fun j hj => ?_) (fun a b ha hb e => ?_)
  · omega
  · obtain ⟨r, e, h2, _⟩ := h1 j hj
    show (ro j).toNat < first
    omega
  · obtain ⟨r1, e1, _, d1⟩ := h1 a ha
    obtain ⟨r2, e2, _, d2⟩ := h1 b hb
    have e : (ro a).toNat = (ro b).toNat := e
    have e3 : r1 = r2 := by omega
    rw [e3] at d1
    omega
theorem HSok.ile (h : HSok n first c p q ro co sl fr sn ρ τ i row col) : i ≤ first := by
  have hr : ∀ k, k < i → ∃ r : Nat, ro (τ k) = r ∧ r < first ∧ co r = τ k := fun k hk => by
    obtain ⟨a, b, _⟩ := h.2.2.2.2.2.2.2.2 k hk
    rcases h.1.1 _ a with ⟨_, _, g⟩ | ⟨r, g1, g2, g3, _⟩
    · exact absurd g b
    · exact ⟨r, g1, g2, g3⟩
  refine pig first i (fun k => (ro (τ k)).toNat) (fun k hk => ?_) (fun a b ha hb e => ?_)
  · obtain ⟨r, e, h2, _⟩ := hr k hk
    show (ro (τ k)).toNat < first
    omega
  · obtain ⟨r1, e1, _, d1⟩ := hr a ha
    obtain ⟨r2, e2, _, d2⟩ := hr b hb
    have e : (ro (τ a)).toNat = (ro (τ b)).toNat := e
    have e3 : r1 = r2 := by omega
    rw [e3] at d1
    have h1 := (h.2.2.2.2.2.2.2.2 a ha).2.2
    have h2 := (h.2.2.2.2.2.2.2.2 b hb).2.2
    have e4 : τ a = τ b := by omega
    rw [e4] at h1
    omega
/-- behind relax -/
theorem HSok.rlx (hc : ∀ r j, -9999 ≤ c r j ∧ c r j ≤ 1000000) (h : HSok n first c p q ro co sl fr sn ρ τ i row col) {sl2 fr2 : Nat → Int} (e : sl2 = rlxS c p q sn sl row) (e2 : fr2 = rlxF c p q sn sl fr row col) :
    (∀ j, j < n → sn j = 0 → ∀ r, rch n first ro sn r → sl2 j ≤ lft c p q r j) ∧
    (∀ j, j < n → sn j = 0 → (fr2 j = -1 ∧ sl2 j = lft c p q first j) ∨ ∃ m r : Nat, m < n ∧ fr2 j = m ∧ sn m ≠ 0 ∧ ro m = r ∧ sl2 j = lft c p q r j) ∧ (∀ j, sn j ≠ 0 → fr2 j = fr j) ∧ ∀ j, j < n → -3000000 ≤ sl2 j ∧ sl2 j ≤ 100000000 := by
  obtain ⟨hpb, hp0, hqb⟩ := h.2.2.1
  have hl : ∀ r j, j < n → -1009999 ≤ lft c p q r j ∧ lft c p q r j ≤ 2019998 := fun r j hj => by
    have h1 := hc r j
    have h2 := hpb r
    have h3 := hqb j hj
    unfold lft
    omega
  refine ⟨fun j hj hs r hr => ?_, fun j hj hs => ?_, fun j hs => ?_, fun j hj => ?_⟩
  · have h1 := rlx_le e j hs
    by_cases hrr : r = row
    · rw [hrr]; exact h1.2
    · have := h.2.2.2.2.2.1 j hj hs r hr hrr
      omega
  · rcases rlx_or e e2 j with ⟨a1, a2, a3⟩ | ⟨_, a2, a3⟩
    · rcases h.2.2.2.2.2.2.1 j hj hs with ⟨b1, b2⟩ | ⟨b1, b2⟩ | ⟨m, r, b1, b2, b3, b4, b5⟩
      · have := a3 hs
        have := hl row j hj
        omega
      · exact Or.inl ⟨by omega, by omega⟩
      · exact Or.inr ⟨m, r, b1, by omega, b3, b4, by omega⟩
    · rcases h.2.2.2.2.1 with ⟨_, e3, e4⟩ | ⟨_, m, g1, g2, g3, g4⟩
      · exact Or.inl ⟨by omega, by rw [← e3]; exact a2⟩
      · exact Or.inr ⟨m, row, g1, by omega, g3, g4, a2⟩
  · rw [e2]
    exact if_neg (fun g => hs g.1)
  · rcases rlx_or e e2 j with ⟨a1, _, _⟩ | ⟨_, a2, _⟩
    · have := h.2.2.2.2.2.2.2.1.1 j hj
      omega
    · have := hl row j hj
      omega
theorem lowP_rch {z : Int} {r : Nat} (h : rch n first ro sn r) : lowP p sn ro first z n r = p r + z := lowP_hit h
theorem lowP_nrch {z : Int} {r : Nat} (h : ¬ rch n first ro sn r) : lowP p sn ro first z n r = p r := lowP_no h
/-- behind lower: what holds of the prices -/
theorem HSok.low (hc : ∀ r j, -9999 ≤ c r j ∧ c r j ≤ 1000000) (hfn : first < n) (h : HSok n first c p q ro co sl fr sn ρ τ i row col) {sl2 fr2 p2 q2 sl3 : Nat → Int} {b : Nat} {z : Int} (e : sl2 = rlxS c p q sn sl row) (e2 : fr2 = rlxF c p q sn sl fr row col)
    (hb : b < n) (hsb : sn b = 0) (hmin : ∀ j, j < n → sn j = 0 → sl2 b ≤ sl2 j) (hz : z = sl2 b) (ep : p2 = lowP p sn ro first z n) (eq : q2 = lowQ q sn z) (es : sl3 = lowS sl2 sn z) :
    (∀ j, j < n → (ro j = -1 ∧ q2 j = 0 ∧ sn j = 0) ∨ ∃ r : Nat, ro j = r ∧ r < first ∧ co r = j ∧ p2 r + q2 j = c r j) ∧
    (∀ r j, r ≤ first → j < n → p2 r + q2 j ≤ c r j) ∧
    ((∀ r, -9999 ≤ p2 r ∧ p2 r ≤ 1000000) ∧ (∀ r, first < r → p2 r = 0) ∧ ∀ j, j < n → -1009999 ≤ q2 j ∧ q2 j ≤ 0) ∧
    (∀ j, j < n → sn j ≠ 0 → ρ j < i ∧ ((fr2 j = -1 ∧ p2 first + q2 j = c first j) ∨ ∃ m r : Nat, m < n ∧ fr2 j = m ∧ sn m ≠ 0 ∧ ρ m < ρ j ∧ ro m = r ∧ p2 r + q2 j = c r j)) ∧
    ((fr2 b = -1 ∧ p2 first + q2 b = c first b) ∨ ∃ m r : Nat, m < n ∧ fr2 b = m ∧ sn m ≠ 0 ∧ ro m = r ∧ p2 r + q2 b = c r b) ∧
    (∀ j, j < n → sn j = 0 → ∀ r, rch n first ro sn r → sl3 j ≤ lft c p2 q2 r j) ∧
    (∀ j, j < n → sn j = 0 → (fr2 j = -1 ∧ sl3 j = lft c p2 q2 first j) ∨ ∃ m r : Nat, m < n ∧ fr2 j = m ∧ sn m ≠ 0 ∧ ro m = r ∧ sl3 j = lft c p2 q2 r j) ∧
    ∀ j, j < n → -3000000 ≤ sl3 j ∧ sl3 j ≤ 100000000 := by
  obtain ⟨r7, r8, r9, r10⟩ := h.rlx hc e e2
  obtain ⟨hpb, hp0, hqb⟩ := h.2.2.1
  have hfe := h.2.1
  have pr : ∀ r, rch n first ro sn r → p2 r = p r + z := fun r hr => by rw [ep]; exact lowP_hit hr
  have pn : ∀ r, ¬ rch n first ro sn r → p2 r = p r := fun r hr => by rw [ep]; exact lowP_no hr
  have q0 : ∀ j, sn j = 0 → q2 j = q j := fun j hj => by rw [eq]; exact if_pos hj
  have q1 : ∀ j, sn j ≠ 0 → q2 j = q j - z := fun j hj => by rw [eq]; exact if_neg hj
  have s0 : ∀ j, sn j = 0 → sl3 j = sl2 j - z := fun j hj => by rw [es]; exact if_pos hj
  have s1 : ∀ j, sn j ≠ 0 → sl3 j = sl2 j := fun j hj => by rw [es]; exact if_neg hj
  have rfirst : rch n first ro sn first := Or.inl rfl
  have rm : ∀ m r : Nat, m < n → sn m ≠ 0 → ro m = r → rch n first ro sn r := fun m r h1 h2 h3 => Or.inr ⟨m, h1, h2, h3⟩
  have iseen : ∀ j, j < n → sn j ≠ 0 → 0 < i := fun j hj hs => by have := (h.2.2.2.1 j hj hs).1; omega
  -- z isn't below 0 but at first
  have hsrc : ∃ r, rch n first ro sn r ∧ z = lft c p q r b := by
    rcases r8 b hb hsb with ⟨_, a⟩ | ⟨m, r, a1, _, a3, a4, a5⟩
    · exact ⟨first, rfirst, by omega⟩
    · exact ⟨r, rm m r a1 a3 a4, by omega⟩
  have zpos : 0 < i → 0 ≤ z := fun hi => by
    obtain ⟨r, hr, hzr⟩ := hsrc
    have h1 := hfe r b (by rcases (h.rle hr).2 with g | g; exact Or.inl g; exact Or.inr ⟨g, hi⟩) hb
    unfold lft at hzr
    omega
  have feas2 : ∀ r j, r ≤ first → j < n → p2 r + q2 j ≤ c r j := by
    intro r j hr hj
    by_cases hs : sn j = 0
    · rw [q0 j hs]
      by_cases hrr : rch n first ro sn r
      · rw [pr r hrr]
        have h1 := r7 j hj hs r hrr
        have h2 := hmin j hj hs
        unfold lft at h1
        omega
      · rw [pn r hrr]
        have hne : r ≠ first := fun g => hrr (Or.inl g)
        exact hfe r j (Or.inl (by omega)) hj
    · have hi := iseen j hj hs
      have hz0 := zpos hi
      have h1 := hfe r j (by rcases Nat.lt_or_ge r first with g | g; exact Or.inl g; exact Or.inr ⟨by omega, hi⟩) hj
      rw [q1 j hs]
      by_cases hrr : rch n first ro sn r
      · rw [pr r hrr]; omega
      · rw [pn r hrr]; omega
  have match2 : ∀ j, j < n → (ro j = -1 ∧ q2 j = 0 ∧ sn j = 0) ∨ ∃ r : Nat, ro j = r ∧ r < first ∧ co r = j ∧ p2 r + q2 j = c r j := by
    intro j hj
    rcases h.1.1 j hj with ⟨a, b, d⟩ | ⟨r, a1, a2, a3, a4⟩
    · exact Or.inl ⟨a, by rw [q0 j d]; exact b, d⟩
    · refine Or.inr ⟨r, a1, a2, a3, ?_⟩
      by_cases hs : sn j = 0
      · have hnr : ¬ rch n first ro sn r := by
          rintro (g | ⟨m, g1, g2, g3⟩)
          · omega
          · rcases h.1.1 m g1 with ⟨_, _, d⟩ | ⟨r2, d1, _, d3, _⟩
            · exact g2 d
            · have e3 : r2 = r := by omega
              rw [e3] at d3
              have e4 : m = j := by omega
              rw [e4] at g2
              exact g2 hs
        rw [q0 j hs, pn r hnr]
        exact a4
      · rw [q1 j hs, pr r (rm j r hj hs a1)]
        omega
  obtain ⟨u, hu, hu1, hu2, hu3⟩ := h.free hfn
  have hqu : q2 u = 0 := by rw [q0 u hu3]; exact hu2
  have pb2 : ∀ r, -9999 ≤ p2 r ∧ p2 r ≤ 1000000 := by
    intro r
    by_cases hr : r ≤ first
    · have h1 := feas2 r u hr hu
      have h2 := hc r u
      refine ⟨?_, by omega⟩
      by_cases hrr : rch n first ro sn r
      · rw [pr r hrr]
        by_cases hi : 0 < i
        · have h3 := zpos hi
          have h4 := hpb r
          omega
        · have hr1 : r = first := by
            rcases hrr with g | ⟨m, g1, g2, _⟩
            · exact g
            · exact absurd (iseen m g1 g2) hi
          have h5 : ∃ r2, r2 = first ∧ z = lft c p q r2 b := by
            obtain ⟨r2, g, hz2⟩ := hsrc
            rcases g with g | ⟨m, g1, g2, _⟩
            · exact ⟨r2, g, hz2⟩
            · exact absurd (iseen m g1 g2) hi
          obtain ⟨r2, h6, h7⟩ := h5
          rw [h6, ← hr1] at h7
          have h8 := hc r b
          have h9 := hqb b hb
          unfold lft at h7
          omega
      · rw [pn r hrr]
        exact (hpb r).1
    · have hnr : ¬ rch n first ro sn r := fun g => by have := (h.rle g).1; omega
      rw [pn r hnr]
      exact hpb r
  have qb2 : ∀ j, j < n → -1009999 ≤ q2 j ∧ q2 j ≤ 0 := by
    intro j hj
    constructor
    · rcases match2 j hj with ⟨_, a, _⟩ | ⟨r, _, _, _, a⟩
      · omega
      · have h1 := pb2 r
        have h2 := hc r j
        omega
    · have h1 := hqb j hj
      by_cases hs : sn j = 0
      · rw [q0 j hs]; omega
      · have := zpos (iseen j hj hs)
        rw [q1 j hs]; omega
  have l2 : ∀ r j, rch n first ro sn r → sn j = 0 → lft c p2 q2 r j = lft c p q r j - z := fun r j hr hs => by
    unfold lft
    rw [pr r hr, q0 j hs]
    omega
  refine ⟨match2, feas2, ⟨pb2, fun r hr => ?_, qb2⟩, fun j hj hs => ?_, ?_, fun j hj hs r hr => ?_, fun j hj hs => ?_, fun j hj => ?_⟩
  · have hnr : ¬ rch n first ro sn r := fun g => by have := (h.rle g).1; omega
    rw [pn r hnr]
    exact hp0 r (by omega) (Or.inl hr)
  · obtain ⟨h1, h2⟩ := h.2.2.2.1 j hj hs
    refine ⟨h1, ?_⟩
    rw [r9 j hs, q1 j hs]
    rcases h2 with ⟨a, b⟩ | ⟨m, r, a1, a2, a3, a4, a5, a6⟩
    · exact Or.inl ⟨a, by rw [pr first rfirst]; omega⟩
    · exact Or.inr ⟨m, r, a1, a2, a3, a4, a5, by rw [pr r (rm m r a1 a3 a5)]; omega⟩
  · rw [q0 b hsb]
    rcases r8 b hb hsb with ⟨a, a2⟩ | ⟨m, r, a1, a2, a3, a4, a5⟩
    · refine Or.inl ⟨a, ?_⟩
      rw [pr first rfirst]
      unfold lft at a2
      omega
    · refine Or.inr ⟨m, r, a1, a2, a3, a4, ?_⟩
      rw [pr r (rm m r a1 a3 a4)]
      unfold lft at a5
      omega
  · rw [s0 j hs, l2 r j hr hs]
    have := r7 j hj hs r hr
    omega
  · rw [s0 j hs]
    rcases r8 j hj hs with ⟨a, a2⟩ | ⟨m, r, a1, a2, a3, a4, a5⟩
    · exact Or.inl ⟨a, by rw [l2 first j rfirst hs]; omega⟩
    · exact Or.inr ⟨m, r, a1, a2, a3, a4, by rw [l2 r j (rm m r a1 a3 a4) hs]; omega⟩
  · have h1 := r10 j hj
    by_cases hs : sn j = 0
    · have hl : ∃ r, rch n first ro sn r ∧ sl3 j = lft c p2 q2 r j := by
        rw [s0 j hs]
        rcases r8 j hj hs with ⟨a, a2⟩ | ⟨m, r, a1, a2, a3, a4, a5⟩
        · exact ⟨first, rfirst, by rw [l2 first j rfirst hs]; omega⟩
        · exact ⟨r, rm m r a1 a3 a4, by rw [l2 r j (rm m r a1 a3 a4) hs]; omega⟩
      obtain ⟨r, _, h2⟩ := hl
      rw [h2]
      unfold lft
      have h3 := hc r j
      have h4 := pb2 r
      have h5 := qb2 j hj
      omega
    · rw [s1 j hs]
      exact h1
/-- the column has a row: on with that row -/
theorem HSok.next (hc : ∀ r j, -9999 ≤ c r j ∧ c r j ≤ 1000000) (hfn : first < n) (h : HSok n first c p q ro co sl fr sn ρ τ i row col) {sl2 fr2 p2 q2 sl3 : Nat → Int} {b row2 : Nat} {z : Int} (e : sl2 = rlxS c p q sn sl row) (e2 : fr2 = rlxF c p q sn sl fr row col)
    (hb : b < n) (hsb : sn b = 0) (hmin : ∀ j, j < n → sn j = 0 → sl2 b ≤ sl2 j) (hz : z = sl2 b) (ep : p2 = lowP p sn ro first z n) (eq : q2 = lowQ q sn z) (es : sl3 = lowS sl2 sn z) (hr2 : ro b = row2) :
    row2 < first ∧ HSok n first c p2 q2 ro co sl3 fr2 (updF sn b 1) (updN ρ b i) (updN τ i b) (i + 1) row2 b := by
  obtain ⟨l1, l2, l3, l4, l5, l6, l7, l8⟩ := h.low hc hfn e e2 hb hsb hmin hz ep eq es
  have hsn : ∀ j, updF sn b 1 j = 0 → j ≠ b ∧ sn j = 0 := fun j hj => by
    by_cases g : j = b
    · rw [g, updF_s] at hj; omega
    · rw [updF_n g] at hj; exact ⟨g, hj⟩
  have hsn2 : ∀ j, updF sn b 1 j ≠ 0 → j = b ∨ (j ≠ b ∧ sn j ≠ 0) := fun j hj => by
    by_cases g : j = b
    · exact Or.inl g
    · rw [updF_n g] at hj; exact Or.inr ⟨g, hj⟩
  have hsn3 : ∀ j, sn j ≠ 0 → updF sn b 1 j ≠ 0 ∧ j ≠ b := fun j hj => by
    have g : j ≠ b := fun g => hj (by rw [g]; exact hsb)
    rw [updF_n g]
    exact ⟨hj, g⟩
  have hsb1 : updF sn b 1 b ≠ 0 := by rw [updF_s]; omega
  have hrow : row2 < first := by
    rcases l1 b hb with ⟨a, _, _⟩ | ⟨r, a1, a2, _⟩
    · omega
    · omega
  refine ⟨hrow, ⟨fun j hj => ?_, h.1.2⟩, fun r j hr hj => l2 r j (by omega) hj, ⟨l3.1, fun r hr hr2 => l3.2.1 r (by omega), l3.2.2⟩, fun j hj hs => ?_, Or.inr ⟨by omega, b, hb, rfl, hsb1, hr2⟩, fun j hj hs r hr hne => ?_, fun j hj hs => ?_, ⟨l8, fun j => ?_⟩, fun k hk => ?_⟩
  · rcases l1 j hj with ⟨a, b1, d⟩ | g
    · refine Or.inl ⟨a, b1, ?_⟩
      have : j ≠ b := fun g => by rw [g] at a; omega
      rw [updF_n this]
      exact d
    · exact Or.inr g
  · rcases hsn2 j hs with g | ⟨g, g2⟩
    · rw [g, updN_s]
      refine ⟨by omega, ?_⟩
      rcases l5 with a | ⟨m, r, a1, a2, a3, a4, a5⟩
      · exact Or.inl a
      · obtain ⟨d1, d2⟩ := hsn3 m a3
        exact Or.inr ⟨m, r, a1, a2, d1, by rw [updN_n d2]; exact (l4 m a1 a3).1, a4, a5⟩
    · rw [updN_n g]
      obtain ⟨a0, a⟩ := l4 j hj g2
      refine ⟨by omega, a.imp id ?_⟩
      rintro ⟨m, r, a1, a2, a3, a4, a5, a6⟩
      obtain ⟨d1, d2⟩ := hsn3 m a3
      exact ⟨m, r, a1, a2, d1, by rw [updN_n d2]; exact a4, a5, a6⟩
  · obtain ⟨g1, g2⟩ := hsn j hs
    refine l6 j hj g2 r ?_
    rcases hr with hr | ⟨m, d1, d2, d3⟩
    · exact Or.inl hr
    · rcases hsn2 m d2 with g | ⟨g, g3⟩
      · rw [g] at d3
        exact absurd (by omega) hne
      · exact Or.inr ⟨m, d1, g3, d3⟩
  · obtain ⟨g1, g2⟩ := hsn j hs
    refine Or.inr ((l7 j hj g2).imp id ?_)
    rintro ⟨m, r, a1, a2, a3, a4, a5⟩
    exact ⟨m, r, a1, a2, (hsn3 m a3).1, a4, a5⟩
  · by_cases g : j = b
    · rw [g, updF_s]; exact Or.inr rfl
    · rw [updF_n g]; exact h.2.2.2.2.2.2.2.1.2 j
  · by_cases g : k = i
    · rw [g, updN_s]
      exact ⟨hb, hsb1, by rw [updN_s]⟩
    · rw [updN_n g]
      obtain ⟨d1, d2, d3⟩ := h.2.2.2.2.2.2.2.2 k (by omega)
      obtain ⟨d4, d5⟩ := hsn3 _ d2
      exact ⟨d1, d4, by rw [updN_n d5]; exact d3⟩
/-- the column has none: the chain is passed on -/
theorem HSok.flip (hc : ∀ r j, -9999 ≤ c r j ∧ c r j ≤ 1000000) (hfn : first < n) (h : HSok n first c p q ro co sl fr sn ρ τ i row col) {sl2 fr2 p2 q2 sl3 : Nat → Int} {b : Nat} {z : Int} (e : sl2 = rlxS c p q sn sl row) (e2 : fr2 = rlxF c p q sn sl fr row col)
    (hb : b < n) (hsb : sn b = 0) (hmin : ∀ j, j < n → sn j = 0 → sl2 b ≤ sl2 j) (hz : z = sl2 b) (ep : p2 = lowP p sn ro first z n) (eq : q2 = lowQ q sn z) (es : sl3 = lowS sl2 sn z) (hr2 : ro b = -1) :
    FLok n (fun r => r < first) (fun _ => True) (fun j => q2 j = 0) (fun r j => p2 r + q2 j = c r j) ro co b ∧
    FLtr n first (fun _ => True) (fun r j => p2 r + q2 j = c r j) ro fr2 (fun j => j < n ∧ updF sn b 1 j ≠ 0) (updN ρ b i) b ∧
    ∀ ro' co', FLend n first (fun r => r < first) (fun _ => True) (fun j => q2 j = 0) (fun r j => p2 r + q2 j = c r j) ro' co' → ASok n (first + 1) c p2 q2 ro' co' := by
  obtain ⟨l1, l2, l3, l4, l5, l6, l7, l8⟩ := h.low hc hfn e e2 hb hsb hmin hz ep eq es
  have hsn3 : ∀ j, sn j ≠ 0 → updF sn b 1 j ≠ 0 ∧ j ≠ b := fun j hj => by
    have g : j ≠ b := fun g => hj (by rw [g]; exact hsb)
    rw [updF_n g]
    exact ⟨hj, g⟩
  refine ⟨⟨fun j hj _ hjb => ?_, fun r hr => ?_⟩, fun j hsj hρ => ?_, fun ro' co' hE => ?_⟩
  · rcases l1 j hj with ⟨a, a1, _⟩ | ⟨r, a1, a2, a3, a4⟩
    · exact Or.inl ⟨a, a1⟩
    · exact Or.inr ⟨r, a1, a2, a3, a4⟩
  · obtain ⟨j, h1, h2, h3⟩ := h.1.2 r hr
    exact ⟨j, h1, trivial, fun g => by rw [g] at h3; omega, h2, h3⟩
  · refine ⟨hsj.1, trivial, ?_⟩
    by_cases g : j = b
    · rw [g, updN_s]
      rcases l5 with a | ⟨m, r, a1, a2, a3, a4, a5⟩
      · exact Or.inl a
      · obtain ⟨d1, d2⟩ := hsn3 m a3
        exact Or.inr ⟨m, r, a1, a2, ⟨a1, d1⟩, by rw [updN_n d2]; exact (l4 m a1 a3).1, a4, a5⟩
    · have hs := hsj.2
      rw [updF_n g] at hs
      rw [updN_n g]
      refine (l4 j hsj.1 hs).2.imp id ?_
      rintro ⟨m, r, a1, a2, a3, a4, a5, a6⟩
      obtain ⟨d1, d2⟩ := hsn3 m a3
      exact ⟨m, r, a1, a2, ⟨a1, d1⟩, by rw [updN_n d2]; exact a4, a5, a6⟩
  · refine ⟨⟨fun j hj => ?_, fun r hr => ?_⟩, fun r j hr hj => l2 r j (by omega) hj, l3.1, fun r hr => l3.2.1 r (by omega), l3.2.2⟩
    · rcases hE.1 j hj trivial with a | ⟨r, a1, a2, a3, a4⟩
      · exact Or.inl a
      · exact Or.inr ⟨r, a1, a2.elim (fun g => Nat.lt_succ_of_lt g) (fun g => by rw [g]; exact Nat.lt_succ_self _), a3, a4⟩
    · obtain ⟨j, h1, _, h2, h3⟩ := hE.2 r (Nat.lt_or_eq_of_le (Nat.le_of_lt_succ hr))
      exact ⟨j, h1, h2, h3⟩
end HUNG
