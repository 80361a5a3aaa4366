/-! made: as much of the storm as the men can make. The rows: the men, then the events; the columns: the events, then as many idle ends as there are men. -/
def upS (S : Nat → Nat) (m x : Nat) : Nat → Nat := fun k => if k = m then x else S k
theorem upS_eq {S : Nat → Nat} {m x : Nat} : upS S m x m = x := if_pos rfl
theorem upS_ne {S : Nat → Nat} {m x k : Nat} (h : k ≠ m) : upS S m x k = S k := if_neg h
def fmx (P : Nat → Bool) (g : Nat → Int) (b : Int) (m : Nat) : Int := if P m then max b (g m) else b
theorem fmx_ge {P : Nat → Bool} {g : Nat → Int} : ∀ (l : List Nat) (b : Int), b ≤ l.foldl (fmx P g) b
  | [], b => Int.le_refl b
  | m :: l, b => by
    refine Int.le_trans ?_ (fmx_ge l (fmx P g b m))
    unfold fmx
    split <;> omega
theorem fmx_at {P : Nat → Bool} {g : Nat → Int} : ∀ (l : List Nat) (b : Int) (m : Nat), m ∈ l → P m = true → g m ≤ l.foldl (fmx P g) b
  | [], _, m, h, _ => by cases h
  | x :: l, b, m, h, hp => by
    rcases List.mem_cons.mp h with rfl | h
    · refine Int.le_trans ?_ (fmx_ge l (fmx P g b m))
      unfold fmx
      rw [if_pos hp]
      omega
    · exact fmx_at l _ m h hp
theorem fmx_or {P : Nat → Bool} {g : Nat → Int} : ∀ (l : List Nat) (b : Int), l.foldl (fmx P g) b = b ∨ ∃ m ∈ l, P m = true ∧ l.foldl (fmx P g) b = g m
  | [], b => Or.inl rfl
  | x :: l, b => by
    rcases fmx_or l (fmx P g b x) with h | ⟨m, h1, h2, h3⟩
    · by_cases hp : P x = true
      · by_cases hg : g x ≤ b
        · left
          rw [List.foldl_cons, h]
          unfold fmx
          rw [if_pos hp]
          omega
        · right
          refine ⟨x, List.mem_cons_self, hp, ?_⟩
          rw [List.foldl_cons, h]
          unfold fmx
          rw [if_pos hp]
          omega
      · left
        rw [List.foldl_cons, h]
        unfold fmx
        rw [if_neg hp]
    · exact Or.inr ⟨m, List.mem_cons_of_mem _ h1, h2, h3⟩
/-- the best worth from event e on, the men standing at the rows S (f: how many events are left) -/
def mV (nm : Nat) (w : Nat → Int) (my : Nat → Nat → Bool) : Nat → Nat → (Nat → Nat) → Int
  | 0, _, _ => 0
  | f + 1, e, S => (List.range nm).foldl (fmx (fun m => my (S m) e) (fun m => w e + mV nm w my f (e + 1) (upS S m (nm + e)))) (mV nm w my f (e + 1) S)
section MSPEC
variable {nm : Nat} {w : Nat → Int} {my : Nat → Nat → Bool}
theorem mV_skip {f e : Nat} {S : Nat → Nat} : mV nm w my f (e + 1) S ≤ mV nm w my (f + 1) e S := fmx_ge _ _
theorem mV_do {f e m : Nat} {S : Nat → Nat} (hm : m < nm) (h : my (S m) e = true) : w e + mV nm w my f (e + 1) (upS S m (nm + e)) ≤ mV nm w my (f + 1) e S := fmx_at (P := fun m => my (S m) e) (g := fun m => w e + mV nm w my f (e + 1) (upS S m (nm + e))) _ _ m (List.mem_range.mpr hm) h
theorem mV_or {f e : Nat} {S : Nat → Nat} : mV nm w my (f + 1) e S = mV nm w my f (e + 1) S ∨ ∃ m, m < nm ∧ my (S m) e = true ∧ mV nm w my (f + 1) e S = w e + mV nm w my f (e + 1) (upS S m (nm + e)) := by
  rcases fmx_or (P := fun m => my (S m) e) (g := fun m => w e + mV nm w my f (e + 1) (upS S m (nm + e))) (List.range nm) (mV nm w my f (e + 1) S) with h | ⟨m, h1, h2, h3⟩
  · exact Or.inl h
  · exact Or.inr ⟨m, List.mem_range.mp h1, h2, h3⟩
theorem mV_nn : ∀ (f e : Nat) (S : Nat → Nat), 0 ≤ mV nm w my f e S
  | 0, _, _ => Int.le_refl 0
  | f + 1, e, S => Int.le_trans (mV_nn f (e + 1) S) mV_skip
theorem mV_le {B : Int} (hB : 0 ≤ B) (hw : ∀ e, w e ≤ B) : ∀ (f e : Nat) (S : Nat → Nat), mV nm w my f e S ≤ B * f
  | 0, _, _ => by show (0 : Int) ≤ B * ((0 : Nat) : Int); simp
  | f + 1, e, S => by
    have e1 : B * ((f + 1 : Nat) : Int) = B * f + B := by rw [Int.natCast_add, Int.mul_add]; simp
    rw [e1]
    rcases mV_or (nm := nm) (w := w) (my := my) (f := f) (e := e) (S := S) with h | ⟨m, _, _, h⟩
    · have := mV_le hB hw f (e + 1) S
      omega
    · have := mV_le hB hw f (e + 1) (upS S m (nm + e))
      have := hw e
      omega
/-- the least man with whom nothing is lost -/
def mpk (nm : Nat) (w : Nat → Int) (my : Nat → Nat → Bool) (f e : Nat) (S : Nat → Nat) (m : Nat) : Bool := my (S m) e && decide (w e + mV nm w my f (e + 1) (upS S m (nm + e)) = mV nm w my (f + 1) e S)
def mpick (nm : Nat) (w : Nat → Int) (my : Nat → Nat → Bool) (f e : Nat) (S : Nat → Nat) : Option Nat := (List.range nm).find? (mpk nm w my f e S)
/-- who does which: -1, none -/
def mD (nm : Nat) (w : Nat → Int) (my : Nat → Nat → Bool) : Nat → Nat → (Nat → Nat) → List Int
  | 0, _, _ => []
  | f + 1, e, S => match mpick nm w my f e S with
    | some m => (m : Int) :: mD nm w my f (e + 1) (upS S m (nm + e))
    | none => -1 :: mD nm w my f (e + 1) S
theorem mpick_some {f e m : Nat} {S : Nat → Nat} (h : mpick nm w my f e S = some m) : m < nm ∧ my (S m) e = true ∧ mV nm w my (f + 1) e S = w e + mV nm w my f (e + 1) (upS S m (nm + e)) ∧ ∀ k, k < m → mpk nm w my f e S k = false := by
  unfold mpick at h
  have h1 := List.find?_some h
  have h2 := List.mem_of_find?_eq_some h
  unfold mpk at h1
  obtain ⟨h3, h4⟩ := Bool.and_eq_true_iff.mp h1
  refine ⟨List.mem_range.mp h2, h3, (of_decide_eq_true h4).symm, fun k hk => ?_⟩
  obtain ⟨_, as, bs, h6, h7⟩ := List.find?_eq_some_iff_append.mp h
  have hlen : as.length = m := by
    have h8 : (List.range nm)[as.length]? = some m := by rw [h6]; simp
    have h9 : as.length < nm := by
      have := (List.getElem?_eq_some_iff.mp h8).1
      rwa [List.length_range] at this
    rw [List.getElem?_range h9] at h8
    exact Option.some.inj h8
  have h10 : k ∈ as := by
    have h11 : as[k]? = some k := by
      have h12 : (List.range nm)[k]? = some k := List.getElem?_range (by have := List.mem_range.mp h2; omega)
      rw [h6, List.getElem?_append_left (by omega)] at h12
      exact h12
    exact List.mem_of_getElem? h11
  have := h7 k h10
  simpa using this
theorem mpick_none {f e : Nat} {S : Nat → Nat} (h : mpick nm w my f e S = none) : mV nm w my (f + 1) e S = mV nm w my f (e + 1) S ∧ ∀ k, k < nm → mpk nm w my f e S k = false := by
  unfold mpick at h
  have h1 := List.find?_eq_none.mp h
  have h2 : ∀ k, k < nm → mpk nm w my f e S k = false := fun k hk => by
    have := h1 k (List.mem_range.mpr hk)
    simpa using this
  refine ⟨?_, h2⟩
  rcases mV_or (nm := nm) (w := w) (my := my) (f := f) (e := e) (S := S) with h3 | ⟨m, h4, h5, h6⟩
  · exact h3
  · have := h2 m h4
    unfold mpk at this
    rw [h5, ← h6, decide_eq_true rfl] at this
    cases this
theorem mD_len : ∀ (f e : Nat) (S : Nat → Nat), (mD nm w my f e S).length = f
  | 0, _, _ => rfl
  | f + 1, e, S => by
    show (match mpick nm w my f e S with | some m => (m : Int) :: mD nm w my f (e + 1) (upS S m (nm + e)) | none => -1 :: mD nm w my f (e + 1) S).length = f + 1
    cases mpick nm w my f e S with
    | none => show (mD nm w my f (e + 1) S).length + 1 = f + 1; rw [mD_len f]
    | some m => show (mD nm w my f (e + 1) (upS S m (nm + e))).length + 1 = f + 1; rw [mD_len f]
end MSPEC
