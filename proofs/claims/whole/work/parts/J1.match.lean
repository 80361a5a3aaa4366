/-! Pigeonholes, sums, matchings of least cost. -/
theorem pig : ∀ (k n : Nat) (f : Nat → Nat), (∀ i, i < n → f i < k) → (∀ i j, i < n → j < n → f i = f j → i = j) → n ≤ k
  | 0, n, f, h, _ => by
    cases n with
    | zero => exact Nat.le_refl 0
    | succ n => exact absurd (h 0 (by omega)) (Nat.not_lt_zero _)
  | k + 1, n, f, h, hi => by
    cases n with
    | zero => omega
    | succ n =>
      have := pig k n (fun i => if f i = k then f n else f i) (fun i hin => ?_) (fun i j hin hjn e => ?_)
      · omega
      · show (if f i = k then f n else f i) < k
        have h1 := h i (by omega)
        have h2 := h n (by omega)
        by_cases e : f i = k
        · rw [if_pos e]
          have : f n ≠ k := fun q => by have := hi i n (by omega) (by omega) (e.trans q.symm); omega
          omega
        · rw [if_neg e]
          omega
      · have e : (if f i = k then f n else f i) = (if f j = k then f n else f j) := e
        by_cases e1 : f i = k <;> by_cases e2 : f j = k
        · exact hi i j (by omega) (by omega) (e1.trans e2.symm)
        · rw [if_pos e1, if_neg e2] at e
          have := hi n j (by omega) (by omega) e
          omega
        · rw [if_neg e1, if_pos e2] at e
          have := hi i n (by omega) (by omega) e
          omega
        · rw [if_neg e1, if_neg e2] at e
          exact hi i j (by omega) (by omega) e
def sm (f : Nat → Int) : Nat → Int
  | 0 => 0
  | n + 1 => sm f n + f n
theorem sm_congr {f g : Nat → Int} : ∀ n, (∀ i, i < n → f i = g i) → sm f n = sm g n
  | 0, _ => rfl
  | n + 1, h => by
    show sm f n + f n = sm g n + g n
    rw [sm_congr n (fun i hi => h i (by omega)), h n (by omega)]
theorem sm_le {f g : Nat → Int} : ∀ n, (∀ i, i < n → f i ≤ g i) → sm f n ≤ sm g n
  | 0, _ => Int.le_refl 0
  | n + 1, h => by
    have h1 := sm_le n (fun i hi => h i (by omega))
    have h2 := h n (by omega)
    show sm f n + f n ≤ sm g n + g n
    omega
theorem sm_eq_of {f g : Nat → Int} : ∀ n, (∀ i, i < n → f i ≤ g i) → sm g n ≤ sm f n → ∀ i, i < n → f i = g i
  | 0, _, _, i, hi => by omega
  | n + 1, h, he, i, hi => by
    have h1 := sm_le n (fun i hi => h i (by omega))
    have h2 := h n (by omega)
    have he : sm g n + g n ≤ sm f n + f n := he
    by_cases e : i = n
    · rw [e]; omega
    · exact sm_eq_of n (fun i hi => h i (by omega)) (by omega) i (by omega)
theorem sm_add {f g : Nat → Int} : ∀ n, sm (fun i => f i + g i) n = sm f n + sm g n
  | 0 => rfl
  | n + 1 => by
    show sm (fun i => f i + g i) n + (f n + g n) = sm f n + f n + (sm g n + g n)
    rw [sm_add n]
    omega
theorem sm_upd {f g : Nat → Int} {k : Nat} : ∀ n, k < n → (∀ i, i < n → i ≠ k → f i = g i) → sm f n + g k = sm g n + f k
  | 0, h, _ => by omega
  | n + 1, h, he => by
    show sm f n + f n + g k = sm g n + g n + f k
    by_cases e : k = n
    · rw [sm_congr n (fun i hi => he i (by omega) (by omega)), e]
      omega
    · have h1 := sm_upd (f := f) (g := g) n (by omega) (fun i hi hne => he i (by omega) hne)
      have h2 := he n (by omega) (fun q => e q.symm)
      omega
theorem sm_perm : ∀ (n : Nat) (f : Nat → Nat), (∀ i, i < n → f i < n) → (∀ i j, i < n → j < n → f i = f j → i = j) → ∀ p : Nat → Int, sm (fun i => p (f i)) n = sm p n
  | 0, _, _, _, _ => rfl
  | n + 1, f, h, hi, p => by
    show sm (fun i => p (f i)) n + p (f n) = sm p n + p n
    by_cases e : f n = n
    · rw [e, sm_perm n f (fun i hin => ?_) (fun i j a b => hi i j (by omega) (by omega)) p]
      have h1 := h i (by omega)
      have : f i ≠ n := fun q => by have := hi i n (by omega) (by omega) (q.trans e.symm); omega
      omega
    · have hsur : ∃ i, i < n ∧ f i = n := by
        apply Classical.byContradiction
        intro hno
        have := pig n (n + 1) f (fun i hin => ?_) (fun i j a b => hi i j a b)
        · omega
        · have h1 := h i hin
          have : f i ≠ n := fun q => by
            by_cases e2 : i = n
            · exact e (by have q2 := q; rw [e2] at q2; exact q2)
            · exact hno ⟨i, by omega, q⟩
          omega
      obtain ⟨k, hk, hfk⟩ := hsur
      have hg : sm (fun i => p (if i = k then f n else f i)) n = sm p n := by
        refine sm_perm n (fun i => if i = k then f n else f i) (fun i hin => ?_) (fun i j hin hjn q => ?_) p
        · show (if i = k then f n else f i) < n
          have h1 := h i (by omega)
          have h2 := h n (by omega)
          by_cases e2 : i = k
          · rw [if_pos e2]; omega
          · rw [if_neg e2]
            have : f i ≠ n := fun q => e2 (hi i k (by omega) (by omega) (q.trans hfk.symm))
            omega
        · have q : (if i = k then f n else f i) = (if j = k then f n else f j) := q
          by_cases e1 : i = k <;> by_cases e2 : j = k
          · omega
          · rw [if_pos e1, if_neg e2] at q
            have := hi n j (by omega) (by omega) q
            omega
          · rw [if_neg e1, if_pos e2] at q
            have := hi i n (by omega) (by omega) q
            omega
          · rw [if_neg e1, if_neg e2] at q
            exact hi i j (by omega) (by omega) q
      have hu := sm_upd (f := fun i => p (f i)) (g := fun i => p (if i = k then f n else f i)) (k := k) n hk (fun i _ hne => by
        show p (f i) = p (if i = k then f n else f i)
        rw [if_neg hne])
      have hu : sm (fun i => p (f i)) n + p (if k = k then f n else f k) = sm (fun i => p (if i = k then f n else f i)) n + p (f k) := hu
      rw [if_pos rfl, hg, hfk] at hu
      omega
/-- sums from a place on -/
def ss (g : Nat → Int) : Nat → Nat → Int
  | _, 0 => 0
  | e, k + 1 => g e + ss g (e + 1) k
theorem ss_congr {f g : Nat → Int} : ∀ (k e : Nat), (∀ j, e ≤ j → j < e + k → f j = g j) → ss f e k = ss g e k
  | 0, _, _ => rfl
  | k + 1, e, h => by
    show f e + ss f (e + 1) k = g e + ss g (e + 1) k
    rw [h e (by omega) (by omega), ss_congr k (e + 1) (fun j a b => h j (by omega) (by omega))]
theorem ss_ge {g : Nat → Int} {B : Int} : ∀ (k e : Nat), (∀ j, e ≤ j → j < e + k → B ≤ g j) → B * k ≤ ss g e k
  | 0, _, _ => by show B * ((0 : Nat) : Int) ≤ 0; simp
  | k + 1, e, h => by
    have h1 := h e (by omega) (by omega)
    have h2 := ss_ge k (e + 1) (fun j a b => h j (by omega) (by omega))
    show B * ((k + 1 : Nat) : Int) ≤ g e + ss g (e + 1) k
    rw [Int.natCast_add, Int.mul_add]
    simp only [Int.natCast_one, Int.mul_one]
    omega
theorem ss_app {g : Nat → Int} : ∀ (a e b : Nat), ss g e (a + b) = ss g e a + ss g (e + a) b
  | 0, e, b => by
    rw [Nat.zero_add]
    show ss g e b = 0 + ss g e b
    omega
  | a + 1, e, b => by
    rw [show a + 1 + b = (a + b) + 1 by omega]
    show g e + ss g (e + 1) (a + b) = g e + ss g (e + 1) a + ss g (e + (a + 1)) b
    rw [ss_app a (e + 1) b, show e + 1 + a = e + (a + 1) by omega]
    omega
theorem sm_ss {g : Nat → Int} : ∀ n, sm g n = ss g 0 n
  | 0 => rfl
  | n + 1 => by
    rw [ss_app n 0 1]
    show sm g n + g n = ss g 0 n + (g (0 + n) + 0)
    rw [sm_ss n, Nat.zero_add]
    omega
