/-! made in the reference: what its table holds; pure. -/
/-- the men stand at S: idle are those of the mask, the others stand behind the events of the set -/
def Rep (nm : Nat) (S : Nat → Nat) (idle : Nat) (s : Nat → Nat) (k : Nat) : Prop :=
  (idle < 2 ^ nm ∧ k + bits idle = nm) ∧ (∀ m, m < nm → (S m = m ∧ idle.testBit m = true) ∨ (idle.testBit m = false ∧ ∃ j, j < k ∧ S m = nm + s j)) ∧ (∀ j, j < k → ∃ m, m < nm ∧ S m = nm + s j) ∧ incr s k
theorem Rep.congr {nm : Nat} {S : Nat → Nat} {idle : Nat} {s t : Nat → Nat} {k : Nat} (h : Rep nm S idle s k) (e : ∀ i, i < k → s i = t i) : Rep nm S idle t k := by
  obtain ⟨h1, h2, h3, h4⟩ := h
  refine ⟨h1, fun m hm => (h2 m hm).imp id ?_, fun j hj => ?_, fun i j hi hj => ?_⟩
  · rintro ⟨a, j, hj, b⟩
    exact ⟨a, j, hj, by rw [← e j hj]; exact b⟩
  · obtain ⟨m, a, b⟩ := h3 j hj
    exact ⟨m, a, by rw [← e j hj]; exact b⟩
  · rw [← e i (by omega), ← e j hj]
    exact h4 i j hi hj
theorem Rep.lt {nm e : Nat} {S : Nat → Nat} {idle : Nat} {s : Nat → Nat} {k : Nat} (h : Rep nm S idle s k) (hs : stok nm e S) {j : Nat} (hj : j < k) : s j < e := by
  obtain ⟨m, a, b⟩ := h.2.2.1 j hj
  have := hs.1 m a
  omega
theorem Rep.kle {nm : Nat} {S : Nat → Nat} {idle : Nat} {s : Nat → Nat} {k : Nat} (h : Rep nm S idle s k) : k = nm - bits idle ∧ k ≤ nm := by
  have := h.1.2
  omega
theorem Rep.rank {nm e : Nat} {S : Nat → Nat} {idle : Nat} {s : Nat → Nat} {k : Nat} (h : Rep nm S idle s k) (hs : stok nm e S) : rks s k < bc e k := rks_lt k e h.2.2.2 (fun i hi => h.lt hs hi)
/-- where its cell lies, in its stage -/
theorem Rep.cell {nm e : Nat} {S : Nat → Nat} {idle : Nat} {s : Nat → Nat} {k : Nat} (h : Rep nm S idle s k) (hs : stok nm e S) (he : e ≤ 24) (hn : nm ≤ 4) : off nm idle + rks s k < off nm (idle + 1) ∧ off nm (idle + 1) ≤ 20475 := by
  have h1 := h.rank hs
  have h2 := bc_mono k he
  have h3 := off_mono (nm := nm) (show idle + 1 ≤ 2 ^ nm from h.1.1)
  have h4 := off_all hn
  rw [off_next, ← h.kle.1]
  rw [off_next, ← h.kle.1] at h3
  omega
/-- one man goes on, from the event j of the set -/
theorem Rep.on {nm e : Nat} {S : Nat → Nat} {idle : Nat} {s : Nat → Nat} {k j m : Nat} (h : Rep nm S idle s k) (hs : stok nm e S) (hj : j < k) (hm : m < nm) (hmj : S m = nm + s j) : Rep nm (upS S m (nm + e)) idle (updN (del s j) (k - 1) e) k := by
  obtain ⟨h1, h2, h3, h4⟩ := h
  have hlt : ∀ i, i < k → s i < e := fun i hi => Rep.lt ⟨h1, h2, h3, h4⟩ hs hi
  have hd : ∀ i, i < k → i ≠ j → ∃ i2, i2 < k - 1 ∧ del s j i2 = s i := fun i hi hne => by
    unfold del
    by_cases g : i < j
    · exact ⟨i, by omega, if_pos g⟩
    · refine ⟨i - 1, by omega, ?_⟩
      rw [if_neg (by omega), show i - 1 + 1 = i by omega]
  have hd2 : ∀ i2, i2 < k - 1 → ∃ i, i < k ∧ i ≠ j ∧ del s j i2 = s i := fun i2 hi => by
    unfold del
    by_cases g : i2 < j
    · exact ⟨i2, by omega, by omega, if_pos g⟩
    · exact ⟨i2 + 1, by omega, by omega, if_neg g⟩
  have hmb : idle.testBit m = false := by
    rcases h2 m hm with ⟨a, _⟩ | ⟨a, _⟩
    · omega
    · exact a
  refine ⟨h1, fun m2 hm2 => ?_, fun i hi => ?_, fun i i2 hi hi2 => ?_⟩
  · by_cases g : m2 = m
    · rw [g, upS_eq]
      exact Or.inr ⟨hmb, k - 1, by omega, by rw [updN_s]⟩
    · rw [upS_ne g]
      refine (h2 m2 hm2).imp id ?_
      rintro ⟨a, i, hi, b⟩
      refine ⟨a, ?_⟩
      obtain ⟨i2, c1, c2⟩ := hd i hi (fun q => g (hs.2 m2 m hm2 hm (by rw [b, hmj, q])))
      exact ⟨i2, by omega, by rw [updN_n (by omega), c2]; exact b⟩
  · by_cases g : i = k - 1
    · exact ⟨m, hm, by rw [upS_eq, g, updN_s]⟩
    · obtain ⟨i2, c1, c2, c3⟩ := hd2 i (by omega)
      obtain ⟨m2, d1, d2⟩ := h3 i2 c1
      have : m2 ≠ m := fun q => c2 (h4.inj c1 hj (by rw [q, hmj] at d2; omega))
      exact ⟨m2, d1, by rw [upS_ne this, updN_n g, c3]; exact d2⟩
  · by_cases g : i2 = k - 1
    · rw [g, updN_s, updN_n (by omega)]
      obtain ⟨i3, c1, c2, c3⟩ := hd2 i (by omega)
      rw [c3]
      exact hlt i3 c1
    · rw [updN_n g, updN_n (by omega)]
      unfold del
      by_cases a1 : i < j <;> by_cases a2 : i2 < j
      · rw [if_pos a1, if_pos a2]; exact h4 i i2 hi (by omega)
      · rw [if_pos a1, if_neg a2]; exact h4 i (i2 + 1) (by omega) (by omega)
      · omega
      · rw [if_neg a1, if_neg a2]; exact h4 (i + 1) (i2 + 1) (by omega) (by omega)
/-- an idle man goes -/
theorem Rep.go {nm e : Nat} {S : Nat → Nat} {idle idle2 : Nat} {s : Nat → Nat} {k m : Nat} (h : Rep nm S idle s k) (hs : stok nm e S) (hm : m < nm) (hmb : idle.testBit m = true) (hn : nm ≤ 4) (hi1 : idle2 < 2 ^ nm) (hi2 : idle2.testBit m = false) (hi3 : ∀ j, j ≠ m → idle2.testBit j = idle.testBit j) :
    S m = m ∧ Rep nm (upS S m (nm + e)) idle2 (updN s k e) (k + 1) := by
  have hlt : ∀ i, i < k → s i < e := fun i hi => h.lt hs hi
  obtain ⟨h1, h2, h3, h4⟩ := h
  have hSm : S m = m := by
    rcases h2 m hm with ⟨a, _⟩ | ⟨a, _⟩
    · exact a
    · rw [hmb] at a; cases a
  refine ⟨hSm, ⟨hi1, ?_⟩, fun m2 hm2 => ?_, fun i hi => ?_, fun i i2 hi hi2' => ?_⟩
  · have := btc_upd hmb hi2 hi3 12 (by omega)
    have h5 := h1.2
    show k + 1 + btc idle2 12 = nm
    have h5 : k + btc idle 12 = nm := h5
    omega
  · by_cases g : m2 = m
    · rw [g, upS_eq]
      exact Or.inr ⟨hi2, k, by omega, by rw [updN_s]⟩
    · rw [upS_ne g, hi3 m2 g]
      refine (h2 m2 hm2).imp id ?_
      rintro ⟨a, i, hi, b⟩
      exact ⟨a, i, by omega, by rw [updN_n (by omega)]; exact b⟩
  · by_cases g : i = k
    · exact ⟨m, hm, by rw [upS_eq, g, updN_s]⟩
    · obtain ⟨m2, d1, d2⟩ := h3 i (by omega)
      have : m2 ≠ m := fun q => by rw [q, hSm] at d2; omega
      exact ⟨m2, d1, by rw [upS_ne this, updN_n g]; exact d2⟩
  · by_cases g : i2 = k
    · rw [g, updN_s, updN_n (by omega)]
      exact hlt i (by omega)
    · rw [updN_n g, updN_n (by omega)]
      exact h4 i i2 hi (by omega)
/-- the cells that hold what they should: those of the sets below (idle, r) -/
def PT (nm ne : Nat) (w : Nat → Int) (my : Nat → Nat → Bool) (T : Nat → Int32) (e idle r : Nat) : Prop :=
  ∀ (S : Nat → Nat) (idle2 : Nat) (s : Nat → Nat) (k : Nat), stok nm e S → Rep nm S idle2 s k → (idle2 < idle ∨ idle2 = idle ∧ rks s k < r) → T (20475 * e + (off nm idle2 + rks s k)) = zI (mV nm w my (ne - e) e S)
section PTABLE
variable {nm ne : Nat} {w : Nat → Int} {my : Nat → Nat → Bool} {T T2 : Nat → Int32} {e idle r : Nat}
theorem PT.get (h : PT nm ne w my T e (2 ^ nm) 0) {S : Nat → Nat} {idle : Nat} {s : Nat → Nat} {k : Nat} (hs : stok nm e S) (hr : Rep nm S idle s k) : T (20475 * e + (off nm idle + rks s k)) = zI (mV nm w my (ne - e) e S) := h S idle s k hs hr (Or.inl hr.1.1)
/-- another stage's cell is written -/
theorem PT.stage (h : PT nm ne w my T e idle r) (he : e ≤ 24) (hn : nm ≤ 4) (hT : ∀ j, 20475 * e ≤ j → j < 20475 * (e + 1) → T2 j = T j) : PT nm ne w my T2 e idle r := fun S idle2 s k hs hr hlt => by
  have h1 := (hr.cell hs he hn)
  rw [hT _ (by omega) (by omega)]
  exact h S idle2 s k hs hr hlt
/-- the next set's cell -/
theorem PT.add {s : Nat → Nat} {k : Nat} {x : Int32} (h : PT nm ne w my T e idle (rks s k)) (hs : incr s k) (hk : k + bits idle = nm) (he : e ≤ 24) (hn : nm ≤ 4) (hT : ∀ j, T2 j = if j = 20475 * e + (off nm idle + rks s k) then x else T j)
    (hx : ∀ S, stok nm e S → Rep nm S idle s k → x = zI (mV nm w my (ne - e) e S)) : PT nm ne w my T2 e idle (rks s k + 1) := by
  intro S idle2 t k2 hst hr hlt
  have hc := hr.cell hst he hn
  rw [hT]
  by_cases g : 20475 * e + (off nm idle2 + rks t k2) = 20475 * e + (off nm idle + rks s k)
  · rw [if_pos g]
    have hid : idle2 = idle := by
      rcases hlt with g2 | ⟨g2, _⟩
      · have := off_mono (nm := nm) (show idle2 + 1 ≤ idle from g2)
        omega
      · exact g2
    subst hid
    have hkk : k2 = k := by have := hr.1.2; omega
    subst hkk
    exact hx S hst (hr.congr (rks_inj k2 hr.2.2.2 hs (by omega)))
  · rw [if_neg g]
    refine h S idle2 t k2 hst hr ?_
    rcases hlt with g2 | ⟨g2, g3⟩
    · exact Or.inl g2
    · refine Or.inr ⟨g2, ?_⟩
      rw [g2] at g
      omega
/-- all the sets of that many are through -/
theorem PT.all {k : Nat} (h : PT nm ne w my T e idle r) (hk : k + bits idle = nm) (hr : bc e k ≤ r) : PT nm ne w my T e (idle + 1) 0 := by
  intro S idle2 t k2 hst hrp hlt
  refine h S idle2 t k2 hst hrp ?_
  rcases hlt with g | ⟨_, g⟩
  · by_cases g2 : idle2 = idle
    · refine Or.inr ⟨g2, ?_⟩
      have h1 := hrp.rank hst
      have : k2 = k := by have := hrp.1.2; rw [g2] at this; omega
      rw [this] at h1 ⊢
      omega
    · exact Or.inl (by omega)
  · omega
/-- there is no set of that many -/
theorem PT.none {k : Nat} (h : PT nm ne w my T e idle 0) (hk : k + bits idle = nm) (hke : e < k) : PT nm ne w my T e (idle + 1) 0 := by
  intro S idle2 t k2 hst hrp hlt
  refine h S idle2 t k2 hst hrp ?_
  rcases hlt with g | ⟨_, g⟩
  · by_cases g2 : idle2 = idle
    · exfalso
      have hkk : k2 = k := by have := hrp.1.2; rw [g2] at this; omega
      subst hkk
      have h1 := hrp.2.2.2.ge (k2 - 1) (by omega)
      have h2 := hrp.lt hst (show k2 - 1 < k2 by omega)
      omega
    · exact Or.inl (by omega)
  · omega
theorem PT.zero : PT nm ne w my T e 0 0 := fun S idle2 t k2 hst hrp hlt => by omega
/-- the last stage -/
theorem PT.last (hT : ∀ j, j < 20475 → T (20475 * ne + j) = zI 0) (hne : ne ≤ 24) (hn : nm ≤ 4) : PT nm ne w my T ne (2 ^ nm) 0 := fun S idle2 t k2 hst hrp hlt => by
  have hc := hrp.cell hst hne hn
  rw [hT _ (by omega), Nat.sub_self]
  rfl
end PTABLE
