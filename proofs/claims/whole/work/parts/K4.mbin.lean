/-! made in the reference: numbers of sets; pure. -/
def bc : Nat → Nat → Nat
  | _, 0 => 1
  | 0, _ + 1 => 0
  | n + 1, k + 1 => bc n (k + 1) + bc n k
theorem bc_0 (n : Nat) : bc n 0 = 1 := by cases n <;> rfl
theorem bc_s (n k : Nat) : bc (n + 1) (k + 1) = bc n (k + 1) + bc n k := rfl
theorem bc_up (n k : Nat) : bc n k ≤ bc (n + 1) k := by
  cases k with
  | zero => rw [bc_0, bc_0]; exact Nat.le_refl _
  | succ k => rw [bc_s]; omega
theorem bc_mono {n m : Nat} (k : Nat) (h : n ≤ m) : bc n k ≤ bc m k := by
  induction m with
  | zero => rw [show n = 0 by omega]; exact Nat.le_refl _
  | succ m ih =>
    by_cases e : n = m + 1
    · rw [e]; exact Nat.le_refl _
    · exact Nat.le_trans (ih (by omega)) (bc_up m k)
theorem bc_id : ∀ i j : Nat, i ≤ j → bc i (j + 1) = 0
  | 0, _, _ => rfl
  | i + 1, j, h => by
    obtain ⟨j, rfl⟩ : ∃ j', j = j' + 1 := ⟨j - 1, by omega⟩
    rw [bc_s, bc_id i (j + 1) (by omega), bc_id i j (by omega)]
/-- the number of a set, its members in their order -/
def rks (s : Nat → Nat) : Nat → Nat
  | 0 => 0
  | k + 1 => rks s k + bc (s k) (k + 1)
theorem rks_congr {s t : Nat → Nat} : ∀ k, (∀ i, i < k → s i = t i) → rks s k = rks t k
  | 0, _ => rfl
  | k + 1, h => by
    show rks s k + bc (s k) (k + 1) = rks t k + bc (t k) (k + 1)
    rw [rks_congr k (fun i hi => h i (by omega)), h k (by omega)]
def incr (s : Nat → Nat) (k : Nat) : Prop := ∀ i j, i < j → j < k → s i < s j
theorem incr.pre {s : Nat → Nat} {k : Nat} (h : incr s (k + 1)) : incr s k := fun i j a b => h i j a (by omega)
theorem incr.ge {s : Nat → Nat} : ∀ {k : Nat}, incr s k → ∀ i, i < k → i ≤ s i
  | k, h, 0, _ => Nat.zero_le _
  | k, h, i + 1, hi => by
    have h1 := h.ge i (by omega)
    have h2 := h i (i + 1) (by omega) hi
    omega
theorem incr.inj {s : Nat → Nat} {k : Nat} (h : incr s k) {i j : Nat} (hi : i < k) (hj : j < k) (e : s i = s j) : i = j := by
  rcases Nat.lt_trichotomy i j with g | g | g
  · have := h i j g hj; omega
  · exact g
  · have := h j i g hi; omega
theorem rks_lt {s : Nat → Nat} : ∀ (k n : Nat), incr s k → (∀ i, i < k → s i < n) → rks s k < bc n k
  | 0, n, _, _ => by rw [bc_0]; exact Nat.lt_succ_self 0
  | k + 1, n, h, hn => by
    have h1 := rks_lt k (s k) h.pre (fun i hi => h i k hi (by omega))
    have h2 := bc_mono (k + 1) (show s k + 1 ≤ n from hn k (by omega))
    rw [bc_s] at h2
    show rks s k + bc (s k) (k + 1) < bc n (k + 1)
    omega
theorem rks_top {s t : Nat → Nat} {k : Nat} (hs : incr s (k + 1)) (h : s k < t k) : rks s (k + 1) < rks t (k + 1) := by
  have h1 := rks_lt (k + 1) (s k + 1) hs (fun i hi => by
    by_cases e : i = k
    · rw [e]; omega
    · have := hs i k (by omega) (by omega); omega)
  have h2 := bc_mono (k + 1) (show s k + 1 ≤ t k from h)
  show rks s (k + 1) < rks t k + bc (t k) (k + 1)
  omega
theorem rks_inj {s t : Nat → Nat} : ∀ k, incr s k → incr t k → rks s k = rks t k → ∀ i, i < k → s i = t i
  | 0, _, _, _, i, hi => absurd hi (Nat.not_lt_zero _)
  | k + 1, hs, ht, e, i, hi => by
    have h : s k = t k := by
      rcases Nat.lt_trichotomy (s k) (t k) with g | g | g
      · have := rks_top hs g; omega
      · exact g
      · have := rks_top ht g; omega
    by_cases q : i = k
    · rw [q]; exact h
    · have e : rks s k + bc (s k) (k + 1) = rks t k + bc (t k) (k + 1) := e
      rw [h] at e
      exact rks_inj k hs.pre ht.pre (by omega) i (by omega)
theorem rks_run {s : Nat → Nat} : ∀ k, (∀ i, i < k → s (i + 1) = s i + 1) → rks s (k + 1) + 1 = bc (s k + 1) (k + 1)
  | 0, _ => by
    rw [bc_s, bc_0]
    show 0 + bc (s 0) (0 + 1) + 1 = _
    omega
  | k + 1, h => by
    have ih := rks_run k (fun i hi => h i (by omega))
    have e : s (k + 1) = s k + 1 := h k (by omega)
    rw [← e] at ih
    show rks s (k + 1) + bc (s (k + 1)) (k + 1 + 1) + 1 = bc (s (k + 1) + 1) (k + 1 + 1)
    rw [bc_s (s (k + 1)) (k + 1)]
    omega
theorem rks_id {s : Nat → Nat} : ∀ k, (∀ i, i < k → s i = i) → rks s k = 0
  | 0, _ => rfl
  | k + 1, h => by
    show rks s k + bc (s k) (k + 1) = 0
    rw [rks_id k (fun i hi => h i (by omega)), h k (by omega), bc_id k k (Nat.le_refl _)]
/-- the set that comes next -/
def nxt (s : Nat → Nat) (k : Nat) : Nat → Nat := fun i => if i < k then i else if i = k then s k + 1 else s i
theorem nxt_rks {s : Nat → Nat} {k : Nat} (h : ∀ i, i < k → s (i + 1) = s i + 1) : ∀ n, k < n → rks (nxt s k) n = rks s n + 1
  | 0, hn => absurd hn (Nat.not_lt_zero _)
  | n + 1, hn => by
    show rks (nxt s k) n + bc (nxt s k n) (n + 1) = rks s n + bc (s n) (n + 1) + 1
    by_cases e : n = k
    · have h1 := rks_run k h
      have h1 : rks s k + bc (s k) (k + 1) + 1 = bc (s k + 1) (k + 1) := h1
      rw [e, rks_id (s := nxt s k) k (fun i hi => if_pos hi)]
      have h2 : nxt s k k = s k + 1 := by unfold nxt; rw [if_neg (by omega), if_pos rfl]
      rw [h2]
      omega
    · rw [nxt_rks h n (by omega)]
      have h2 : nxt s k n = s n := by unfold nxt; rw [if_neg (by omega), if_neg e]
      rw [h2]
      omega
theorem nxt_incr {s : Nat → Nat} {k n : Nat} (hs : incr s n) (hk : k < n) (hgap : k + 1 < n → s k + 1 < s (k + 1)) : incr (nxt s k) n := by
  intro i j hij hj
  have hg := hs.ge k hk
  unfold nxt
  by_cases a1 : i < k <;> by_cases a2 : j < k
  · rw [if_pos a1, if_pos a2]; exact hij
  · rw [if_pos a1, if_neg a2]
    split
    · omega
    · have := hs.ge j hj; omega
  · omega
  · rw [if_neg a1, if_neg a2]
    by_cases b1 : i = k
    · rw [if_pos b1, if_neg (show ¬ j = k by omega)]
      have h1 := hgap (by omega)
      by_cases c1 : j = k + 1
      · rw [c1]; exact h1
      · have := hs (k + 1) j (by omega) hj; omega
    · rw [if_neg b1, if_neg (show ¬ j = k by omega)]
      exact hs i j hij hj
/-- the members, one left out -/
def del (s : Nat → Nat) (k : Nat) : Nat → Nat := fun i => if i < k then s i else s (i + 1)
/-! bits -/
def btc (v : Nat) : Nat → Nat
  | 0 => 0
  | k + 1 => btc v k + (v.testBit k).toNat
abbrev bits (v : Nat) : Nat := btc v 12
theorem btc_le (v : Nat) : ∀ k, btc v k ≤ k
  | 0 => Nat.le_refl 0
  | k + 1 => by
    have := btc_le v k
    show btc v k + (v.testBit k).toNat ≤ k + 1
    cases v.testBit k <;> simp <;> omega
theorem btc_hi {v n : Nat} (h : v < 2 ^ n) : ∀ k, btc v (n + k) = btc v n
  | 0 => rfl
  | k + 1 => by
    show btc v (n + k) + (v.testBit (n + k)).toNat = _
    rw [btc_hi h k, Nat.testBit_lt_two_pow (Nat.lt_of_lt_of_le h (Nat.pow_le_pow_right (by omega) (by omega)))]
    simp
theorem bits_eq {v n : Nat} (h : v < 2 ^ n) (hn : n ≤ 4) : bits v = btc v n := by
  have := btc_hi h (12 - n)
  rwa [show n + (12 - n) = 12 by omega] at this
theorem btc_congr {v u : Nat} : ∀ k, (∀ j, j < k → v.testBit j = u.testBit j) → btc v k = btc u k
  | 0, _ => rfl
  | k + 1, h => by
    show btc v k + (v.testBit k).toNat = btc u k + (u.testBit k).toNat
    rw [btc_congr k (fun j hj => h j (by omega)), h k (by omega)]
theorem btc_upd {v u m : Nat} (hv : v.testBit m = true) (hu : u.testBit m = false) (he : ∀ j, j ≠ m → u.testBit j = v.testBit j) : ∀ k, m < k → btc u k + 1 = btc v k
  | 0, h => absurd h (Nat.not_lt_zero _)
  | k + 1, h => by
    show btc u k + (u.testBit k).toNat + 1 = btc v k + (v.testBit k).toNat
    by_cases e : m = k
    · rw [← e, hv, hu, btc_congr m (fun j hj => he j (by omega))]
      simp
    · rw [he k (fun q => e q.symm)]
      have := btc_upd hv hu he k (by omega)
      omega
/-! where the cells of a set of idle men begin -/
def off (nm : Nat) : Nat → Nat
  | 0 => 0
  | i + 1 => off nm i + bc 24 (nm - bits i)
theorem off_mono {nm : Nat} {i j : Nat} (h : i ≤ j) : off nm i ≤ off nm j := by
  induction j with
  | zero => rw [show i = 0 by omega]; exact Nat.le_refl _
  | succ j ih =>
    by_cases e : i = j + 1
    · rw [e]; exact Nat.le_refl _
    · have := ih (by omega)
      show _ ≤ off nm j + bc 24 (nm - bits j)
      omega
theorem off_all {nm : Nat} (h : nm ≤ 4) : off nm (2 ^ nm) ≤ 20475 := by
  have h1 : ∀ n : Nat, n < 5 → off n (2 ^ n) ≤ 20475 := by decide +kernel
  exact h1 nm (by omega)
theorem off_next {nm i : Nat} : off nm (i + 1) = off nm i + bc 24 (nm - bits i) := rfl
