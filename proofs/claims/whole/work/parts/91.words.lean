/-! Words. -/
def wdN (bs : Nat → Int) (st n : Nat) : List Int := (List.range n).map (fun i => bs (st + i))
def twd (bs : Nat → Int) (t : TK) : List Int := wdN bs t.2.1 (t.2.2.1 - t.2.1)
def hlL (L : List Int) : Int := L.foldl (fun h c => 27 * h + c - 96) 0
theorem wdN_len {bs : Nat → Int} {st n : Nat} : (wdN bs st n).length = n := by unfold wdN; simp
theorem wdN_s {bs : Nat → Int} {st n : Nat} : wdN bs st (n + 1) = wdN bs st n ++ [bs (st + n)] := by
  unfold wdN
  rw [List.range_succ, List.map_append]
  rfl
theorem hwN_wd {bs : Nat → Int} {st : Nat} : ∀ n, n ≤ 8 → hwN bs st n = hlL (wdN bs st n)
  | 0, _ => rfl
  | n + 1, h => by
    unfold hwN
    rw [if_pos (by omega), wdN_s, hwN_wd n (by omega)]
    unfold hlL
    rw [List.foldl_append]
    rfl
def LetL (L : List Int) : Prop := ∀ c ∈ L, 97 ≤ c ∧ c ≤ 122
theorem hlL_s (L : List Int) (c : Int) : hlL (L ++ [c]) = 27 * hlL L + c - 96 := by
  unfold hlL
  rw [List.foldl_append]
  rfl
theorem snoc_ind {P : List Int → Prop} (h0 : P []) (hs : ∀ L c, P L → P (L ++ [c])) (L : List Int) : P L := by
  rw [← List.reverse_reverse L]
  induction L.reverse with
  | nil => exact h0
  | cons c r ih => rw [List.reverse_cons]; exact hs _ _ ih
theorem hlL_pos {L : List Int} : LetL L → 0 ≤ hlL L ∧ (L ≠ [] → 1 ≤ hlL L) := by
  refine snoc_ind (P := fun L => LetL L → 0 ≤ hlL L ∧ (L ≠ [] → 1 ≤ hlL L)) ?_ ?_ L
  · exact fun _ => ⟨Int.le_refl _, fun h => absurd rfl h⟩
  · intro L c ih h
    have h1 := ih (fun x hx => h x (List.mem_append_left _ hx))
    have h2 := h c (List.mem_append_right _ List.mem_cons_self)
    rw [hlL_s]
    omega
theorem hlL_inj : ∀ L M : List Int, LetL L → LetL M → hlL L = hlL M → L = M := by
  refine snoc_ind (P := fun L => ∀ M : List Int, LetL L → LetL M → hlL L = hlL M → L = M) ?_ ?_
  · intro M _ hM e
    by_cases q : M = []
    · exact q.symm
    · have h1 := (hlL_pos hM).2 q
      have : hlL [] = 0 := rfl
      omega
  · intro L c ih M hL hM e
    have hc := hL c (List.mem_append_right _ List.mem_cons_self)
    have hL' : LetL L := fun x hx => hL x (List.mem_append_left _ hx)
    have hLp := (hlL_pos hL').1
    revert hM e
    refine snoc_ind (P := fun M => LetL M → hlL (L ++ [c]) = hlL M → L ++ [c] = M) ?_ ?_ M
    · intro _ e
      rw [hlL_s] at e
      have : hlL [] = 0 := rfl
      omega
    · intro M b _ hM e
      have hb := hM b (List.mem_append_right _ List.mem_cons_self)
      have hM' : LetL M := fun x hx => hM x (List.mem_append_left _ hx)
      have hMp := (hlL_pos hM').1
      rw [hlL_s, hlL_s] at e
      have e1 : c = b := by omega
      have e2 : hlL L = hlL M := by omega
      rw [ih M hL' hM' e2, e1]
theorem hlL_lt {L : List Int} (h : LetL L) : hlL L < 27 ^ L.length := by
  revert h
  refine snoc_ind (P := fun L => LetL L → hlL L < 27 ^ L.length) ?_ ?_ L
  · intro _
    show (0 : Int) < 27 ^ 0
    decide
  · intro L c ih h
    have h1 := ih (fun x hx => h x (List.mem_append_left _ hx))
    have h2 := h c (List.mem_append_right _ List.mem_cons_self)
    rw [hlL_s, List.length_append]
    show _ < (27 : Int) ^ (L.length + 1)
    rw [Int.pow_succ]
    omega
/-- what a token is -/
theorem tok_ok {sz p : Nat} {bs : Nat → Int} (hb : BSsok sz bs) (hp : p ≤ sz) :
    (tokA sz bs p).2.1 ≤ (tokA sz bs p).2.2.1 ∧ (tokA sz bs p).2.2.1 ≤ sz ∧ (tokA sz bs p).1 ≤ 4 ∧ (tokA sz bs p).2.1 ≤ 600 ∧
    ((tokA sz bs p).1 = 1 → LetL (twd bs (tokA sz bs p)) ∧ (tokA sz bs p).2.2.1 - (tokA sz bs p).2.1 ≤ 8) ∧
    (0 ≤ (tokA sz bs p).2.2.2 ∧ (tokA sz bs p).2.2.2 ≤ 9999) ∧
    ((tokA sz bs p).1 ≠ 0 → (tokA sz bs p).1 ≠ 4 → p < (tokA sz bs p).2.2.1) ∧ ((tokA sz bs p).1 = 0 → (tokA sz bs p).2.1 = min sz 600) ∧ ((tokA sz bs p).1 ≠ 0 → (tokA sz bs p).2.1 < min sz 600) := by
  have hsz := hb.1
  have hq1 : p ≤ tkQ sz bs p := (skp_le (bs := bs) (lim := min sz 600) 640 p).1
  unfold tokA
  generalize tkQ sz bs p = q at *
  by_cases h1 : min sz 600 ≤ q
  · rw [if_pos h1]
    refine ⟨Nat.le_refl _, by show min sz 600 ≤ sz; omega, by show (0 : Nat) ≤ 4; omega, by show min sz 600 ≤ 600; omega, (fun z => by cases z), ⟨Int.le_refl _, by show (0 : Int) ≤ 9999; omega⟩, fun z => absurd rfl z, fun _ => rfl, fun z => absurd rfl z⟩
  rw [if_neg h1]
  by_cases h2 : bs q = 59
  · rw [if_pos h2]
    refine ⟨by show q ≤ q + 1; omega, by show q + 1 ≤ sz; omega, by show (3 : Nat) ≤ 4; omega, by show q ≤ 600; omega, (fun z => by cases z), ⟨Int.le_refl _, by show (0 : Int) ≤ 9999; omega⟩, fun _ _ => by show p < q + 1; omega, (fun z => by cases z), fun _ => by show q < min sz 600; omega⟩
  rw [if_neg h2]
  have hE := alnE_le (sz := sz) (bs := bs) 640 q
  have hA := alnE_spec (sz := sz) (bs := bs) 640 q
  have hE' : alnE sz bs 640 q = tkE sz bs q := rfl
  rw [hE'] at hE hA
  generalize tkE sz bs q = e at *
  have hle := rst_le (bs := bs) (q := q) (e - q)
  have hval := rst_e (q := q) hb.2 (e - q)
  dsimp only
  refine ⟨hE.1, by omega, ?_, by omega, fun z => ?_, hval, fun z1 z2 => ?_, fun z => ?_, fun _ => by omega⟩
  · unfold rkind
    split
    · omega
    · split <;> omega
  · have hk : (rst bs q (e - q)).2.1 = 0 ∧ 1 ≤ (rst bs q (e - q)).1 ∧ (rst bs q (e - q)).1 ≤ 8 := by
      unfold rkind at z
      split at z
      · next h => exact h
      · split at z <;> omega
    refine ⟨fun c hc => ?_, by omega⟩
    unfold twd wdN at hc
    dsimp only at hc
    obtain ⟨i, hi, rfl⟩ := List.mem_map.mp hc
    rw [List.mem_range] at hi
    rcases hA i hi with w | w
    · exact w
    · have := rst_mix1 (bs := bs) (q := q) (e - q) ⟨i, hi, w⟩
      omega
  · have : e ≠ q := by
      intro h
      rw [h, Nat.sub_self] at z2
      exact z2 rfl
    omega
  · exfalso
    unfold rkind at z
    split at z
    · omega
    · split at z <;> omega
/-- the words that are none of a NAME -/
def kAt : List Int := [97, 116]
def kUse : List Int := [117, 115, 101]
def kWith : List Int := [119, 105, 116, 104]
def kEnd : List Int := [101, 110, 100]
def kStorm : List Int := [115, 116, 111, 114, 109]
def kTimes : List Int := [116, 105, 109, 101, 115]
def kEvery : List Int := [101, 118, 101, 114, 121]
def kPlay : List Int := [112, 108, 97, 121]
abbrev isW (bs : Nat → Int) (t : TK) (w : List Int) : Prop := t.1 = 1 ∧ twd bs t = w
abbrev isNm (bs : Nat → Int) (t : TK) : Prop := t.1 = 1 ∧ twd bs t ≠ kAt ∧ twd bs t ≠ kUse ∧ twd bs t ≠ kWith ∧ twd bs t ≠ kEnd ∧ twd bs t ≠ kStorm ∧ twd bs t ≠ kTimes ∧ twd bs t ≠ kEvery ∧ twd bs t ≠ kPlay
