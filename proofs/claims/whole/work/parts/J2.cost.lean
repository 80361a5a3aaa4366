/-! made: plans and assignments. -/
def cst (nm ne : Nat) (w : Nat → Int) (my : Nat → Nat → Bool) (r j : Nat) : Int := if ne ≤ j ∨ r = nm + j then 0 else if my r j then -(w j) else 1000000
/-- the rows that are still to be given, at event e, the men standing at S -/
def avl (nm ne e : Nat) (S : Nat → Nat) (r : Nat) : Prop := (∃ m, m < nm ∧ r = S m) ∨ ∃ l, e ≤ l ∧ l < ne ∧ r = nm + l
/-- where the men stand: before event e, apart -/
def stok (nm e : Nat) (S : Nat → Nat) : Prop := (∀ m, m < nm → S m < nm + e) ∧ ∀ m k, m < nm → k < nm → S m = S k → m = k
theorem stok.up {nm e m : Nat} {S : Nat → Nat} (h : stok nm e S) : stok nm (e + 1) (upS S m (nm + e)) := by
  refine ⟨fun k hk => ?_, fun k q hk hq he => ?_⟩
  · unfold upS
    split
    · omega
    · have := h.1 k hk
      omega
  · unfold upS at he
    by_cases e1 : k = m <;> by_cases e2 : q = m
    · omega
    · rw [if_pos e1, if_neg e2] at he
      have := h.1 q hq
      omega
    · rw [if_neg e1, if_pos e2] at he
      have := h.1 k hk
      omega
    · rw [if_neg e1, if_neg e2] at he
      exact h.2 k q hk hq he
theorem stok.sk {nm e : Nat} {S : Nat → Nat} (h : stok nm e S) : stok nm (e + 1) S := ⟨fun m hm => by have := h.1 m hm; omega, h.2⟩
section MCOST
variable {nm ne : Nat} {w : Nat → Int} {my : Nat → Nat → Bool}
/-- what is asked of the problem: worths in their bounds; no event leads to one that isn't later -/
def mpok (nm ne : Nat) (w : Nat → Int) (my : Nat → Nat → Bool) : Prop := ne ≤ 24 ∧ (∀ e, 0 ≤ w e ∧ w e ≤ 9999) ∧ ∀ l e, e ≤ l → l < ne → my (nm + l) e = false
theorem cst_ge (hp : mpok nm ne w my) (r j : Nat) : -9999 ≤ cst nm ne w my r j := by
  have := hp.2.1 j
  unfold cst
  split
  · omega
  · split <;> omega
theorem cst_end {r j : Nat} (h : ne ≤ j) : cst nm ne w my r j = 0 := if_pos (Or.inl h)
theorem cst_own {j : Nat} : cst nm ne w my (nm + j) j = 0 := if_pos (Or.inr rfl)
theorem cst_do {r j : Nat} (h1 : j < ne) (h2 : r ≠ nm + j) (h : my r j = true) : cst nm ne w my r j = -(w j) := by
  unfold cst
  rw [if_neg (by omega), if_pos h]
theorem cst_no {r j : Nat} (h1 : j < ne) (h2 : r ≠ nm + j) (h : my r j = false) : cst nm ne w my r j = 1000000 := by
  unfold cst
  rw [if_neg (by omega), h]
  rfl
theorem ss_low (hp : mpok nm ne w my) (σ : Nat → Nat) : ∀ (k e : Nat), -9999 * ((ne - e : Nat) : Int) ≤ ss (fun j => cst nm ne w my (σ j) j) e k
  | 0, e => by
    show _ ≤ (0 : Int)
    omega
  | k + 1, e => by
    show _ ≤ cst nm ne w my (σ e) e + ss (fun j => cst nm ne w my (σ j) j) (e + 1) k
    have ih := ss_low hp σ k (e + 1)
    by_cases h : ne ≤ e
    · rw [cst_end h]
      omega
    · have := cst_ge hp (σ e) e
      omega
/-- a chance missed is dear -/
theorem ss_dear (hp : mpok nm ne w my) {σ : Nat → Nat} {k e : Nat} (h : cst nm ne w my (σ e) e = 1000000) : 1 ≤ ss (fun j => cst nm ne w my (σ j) j) e (k + 1) := by
  have h1 := ss_low hp σ k (e + 1)
  have h2 := hp.1
  show 1 ≤ cst nm ne w my (σ e) e + ss (fun j => cst nm ne w my (σ j) j) (e + 1) k
  rw [h]
  omega
/-- no assignment of what is left is cheaper than the best plan -/
theorem m_lb (hp : mpok nm ne w my) : ∀ (f e : Nat) (S σ : Nat → Nat), e + f = ne → stok nm e S → (∀ j, e ≤ j → j < nm + ne → avl nm ne e S (σ j)) → (∀ i j, e ≤ i → e ≤ j → i < nm + ne → j < nm + ne → σ i = σ j → i = j) →
    -(mV nm w my f e S) ≤ ss (fun j => cst nm ne w my (σ j) j) e (f + nm)
  | 0, e, S, σ, he, _, _, _ => by
    show -(0 : Int) ≤ _
    have h1 := ss_ge (g := fun j => cst nm ne w my (σ j) j) (B := 0) (0 + nm) e (fun j a _ => by rw [cst_end (by omega)]; exact Int.le_refl 0)
    omega
  | f + 1, e, S, σ, he, hs, hav, hinj => by
    have hnn := mV_nn (nm := nm) (w := w) (my := my) (f + 1) e S
    rw [show f + 1 + nm = (f + nm) + 1 by omega]
    have dear : cst nm ne w my (σ e) e = 1000000 → -(mV nm w my (f + 1) e S) ≤ ss (fun j => cst nm ne w my (σ j) j) e (f + nm + 1) := fun h => by
      have := ss_dear hp (k := f + nm) h
      omega
    rcases hav e (Nat.le_refl e) (by omega) with ⟨m, hm, hr⟩ | ⟨l, hl, hl2, hr⟩
    · have hne : σ e ≠ nm + e := by have := hs.1 m hm; omega
      cases hmy : my (σ e) e with
      | false => exact dear (cst_no (by omega) hne hmy)
      | true =>
        show _ ≤ cst nm ne w my (σ e) e + ss (fun j => cst nm ne w my (σ j) j) (e + 1) (f + nm)
        rw [cst_do (by omega) hne hmy]
        rw [hr] at hmy
        have h1 := mV_do (nm := nm) (w := w) (f := f) hm hmy
        have h2 := m_lb hp f (e + 1) (upS S m (nm + e)) σ (by omega) hs.up (fun j h3 h4 => ?_) (fun i j a b c d => hinj i j (by omega) (by omega) c d)
        · omega
        · have hj : σ j ≠ S m := fun q => by have := hinj j e (by omega) (Nat.le_refl e) h4 (by omega) (q.trans hr.symm); omega
          rcases hav j (by omega) h4 with ⟨k, hk, hk2⟩ | ⟨l, hl, hl2, hl3⟩
          · have : k ≠ m := fun q => hj (by rw [hk2, q])
            exact Or.inl ⟨k, hk, by rw [upS_ne this]; exact hk2⟩
          · by_cases e1 : l = e
            · exact Or.inl ⟨m, hm, by rw [upS_eq, hl3, e1]⟩
            · exact Or.inr ⟨l, by omega, hl2, hl3⟩
    · by_cases e1 : l = e
      · show _ ≤ cst nm ne w my (σ e) e + ss (fun j => cst nm ne w my (σ j) j) (e + 1) (f + nm)
        rw [hr, e1, cst_own]
        have h1 := mV_skip (nm := nm) (w := w) (my := my) (f := f) (e := e) (S := S)
        have h2 := m_lb hp f (e + 1) S σ (by omega) hs.sk (fun j h3 h4 => ?_) (fun i j a b c d => hinj i j (by omega) (by omega) c d)
        · omega
        · rcases hav j (by omega) h4 with h5 | ⟨l2, hl4, hl5, hl6⟩
          · exact Or.inl h5
          · have : l2 ≠ e := fun q => by have := hinj j e (by omega) (Nat.le_refl e) h4 (by omega) (by rw [hl6, hr, e1, q]); omega
            exact Or.inr ⟨l2, by omega, hl5, hl6⟩
      · exact dear (cst_no (by omega) (by omega) (by rw [hr]; exact hp.2.2 l e hl hl2))
/-- the best plan is an assignment of what is left -/
theorem m_at (hp : mpok nm ne w my) : ∀ (f e : Nat) (S : Nat → Nat), e + f = ne → stok nm e S →
    ∃ σ : Nat → Nat, (∀ j, e ≤ j → j < nm + ne → avl nm ne e S (σ j)) ∧ (∀ i j, e ≤ i → e ≤ j → i < nm + ne → j < nm + ne → σ i = σ j → i = j) ∧ ss (fun j => cst nm ne w my (σ j) j) e (f + nm) = -(mV nm w my f e S)
  | 0, e, S, he, hs => by
    refine ⟨fun j => S (j - ne), fun j h1 h2 => Or.inl ⟨j - ne, by omega, rfl⟩, fun i j h1 h2 h3 h4 h5 => ?_, ?_⟩
    · have := hs.2 (i - ne) (j - ne) (by omega) (by omega) h5
      omega
    · have h1 := ss_congr (f := fun j => cst nm ne w my (S (j - ne)) j) (g := fun _ => 0) (0 + nm) e (fun j a _ => cst_end (by omega))
      rw [h1]
      have z : ∀ (k e : Nat), ss (fun _ => 0) e k = 0 := fun k => by
        induction k with
        | zero => exact fun _ => rfl
        | succ k ih =>
          intro e
          show (0 : Int) + ss (fun _ => 0) (e + 1) k = 0
          rw [ih]
          rfl
      rw [z]
      rfl
  | f + 1, e, S, he, hs => by
    rw [show f + 1 + nm = (f + nm) + 1 by omega]
    have glue : ∀ (r : Nat) (S' σ : Nat → Nat), avl nm ne e S r → (∀ j, e + 1 ≤ j → j < nm + ne → avl nm ne (e + 1) S' (σ j)) → (∀ i j, e + 1 ≤ i → e + 1 ≤ j → i < nm + ne → j < nm + ne → σ i = σ j → i = j) → (∀ r2, avl nm ne (e + 1) S' r2 → avl nm ne e S r2 ∧ r2 ≠ r) →
        ss (fun j => cst nm ne w my (σ j) j) (e + 1) (f + nm) + cst nm ne w my r e = -(mV nm w my (f + 1) e S) → ∃ σ : Nat → Nat, (∀ j, e ≤ j → j < nm + ne → avl nm ne e S (σ j)) ∧ (∀ i j, e ≤ i → e ≤ j → i < nm + ne → j < nm + ne → σ i = σ j → i = j) ∧ ss (fun j => cst nm ne w my (σ j) j) e (f + nm + 1) = -(mV nm w my (f + 1) e S) := by
      intro r S' σ hr h1 h2 h3 h4
      refine ⟨fun j => if j = e then r else σ j, fun j a b => ?_, fun i j a b c d q => ?_, ?_⟩
      · show avl nm ne e S (if j = e then r else σ j)
        by_cases ej : j = e
        · rw [if_pos ej]; exact hr
        · rw [if_neg ej]; exact (h3 _ (h1 j (by omega) b)).1
      · have q : (if i = e then r else σ i) = (if j = e then r else σ j) := q
        by_cases e1 : i = e <;> by_cases e2 : j = e
        · omega
        · rw [if_pos e1, if_neg e2] at q
          exact absurd q.symm (h3 _ (h1 j (by omega) d)).2
        · rw [if_neg e1, if_pos e2] at q
          exact absurd q (h3 _ (h1 i (by omega) c)).2
        · rw [if_neg e1, if_neg e2] at q
          exact h2 i j (by omega) (by omega) c d q
      · show cst nm ne w my (if e = e then r else σ e) e + ss (fun j => cst nm ne w my (if j = e then r else σ j) j) (e + 1) (f + nm) = _
        rw [if_pos rfl, ss_congr (g := fun j => cst nm ne w my (σ j) j) (f + nm) (e + 1) (fun j a _ => by rw [if_neg (by omega)])]
        omega
    rcases mV_or (nm := nm) (w := w) (my := my) (f := f) (e := e) (S := S) with hv | ⟨m, hm, hmy, hv⟩
    · obtain ⟨σ, h1, h2, h3⟩ := m_at hp f (e + 1) S (by omega) hs.sk
      refine glue (nm + e) S σ (Or.inr ⟨e, Nat.le_refl e, by omega, rfl⟩) h1 h2 (fun r2 hr2 => ?_) ?_
      · rcases hr2 with ⟨k, hk, hk2⟩ | ⟨l, hl, hl2, hl3⟩
        · exact ⟨Or.inl ⟨k, hk, hk2⟩, by have := hs.1 k hk; omega⟩
        · exact ⟨Or.inr ⟨l, by omega, hl2, hl3⟩, by omega⟩
      · rw [h3, cst_own, hv]
        omega
    · obtain ⟨σ, h1, h2, h3⟩ := m_at hp f (e + 1) (upS S m (nm + e)) (by omega) hs.up
      have hSm := hs.1 m hm
      refine glue (S m) (upS S m (nm + e)) σ (Or.inl ⟨m, hm, rfl⟩) h1 h2 (fun r2 hr2 => ?_) ?_
      · rcases hr2 with ⟨k, hk, hk2⟩ | ⟨l, hl, hl2, hl3⟩
        · by_cases ek : k = m
          · rw [ek, upS_eq] at hk2
            exact ⟨Or.inr ⟨e, Nat.le_refl e, by omega, hk2⟩, by omega⟩
          · rw [upS_ne ek] at hk2
            exact ⟨Or.inl ⟨k, hk, hk2⟩, fun q => ek (hs.2 k m hk hm (hk2.symm.trans q))⟩
        · exact ⟨Or.inr ⟨l, by omega, hl2, hl3⟩, by omega⟩
      · rw [h3, cst_do (by omega) (by omega) hmy, hv]
        omega
end MCOST
