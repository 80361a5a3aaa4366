/-! made: an assignment at no loss, and the best plan. -/
def PMok (n : Nat) (ro co : Nat → Nat) : Prop := (∀ j, j < n → ro j < n ∧ co (ro j) = j) ∧ ∀ r, r < n → co r < n ∧ ro (co r) = r
theorem PMok.inj {n : Nat} {ro co : Nat → Nat} (h : PMok n ro co) {i j : Nat} (hi : i < n) (hj : j < n) (e : ro i = ro j) : i = j := by
  rw [← (h.1 i hi).2, ← (h.1 j hj).2, e]
section MTIGHT
variable {nm ne : Nat} {w : Nat → Int} {my : Nat → Nat → Bool} {p q : Nat → Int}
def feas (nm ne : Nat) (w : Nat → Int) (my : Nat → Nat → Bool) (p q : Nat → Int) : Prop := ∀ r j, r < nm + ne → j < nm + ne → p r + q j ≤ cst nm ne w my r j
def tght (nm ne : Nat) (w : Nat → Int) (my : Nat → Nat → Bool) (p q : Nat → Int) (ro : Nat → Nat) : Prop := ∀ j, j < nm + ne → p (ro j) + q j = cst nm ne w my (ro j) j
def mpre (nm ne e : Nat) (S ro : Nat → Nat) : Prop := stok nm e S ∧ (∀ j, e ≤ j → j < nm + ne → avl nm ne e S (ro j)) ∧ ∀ j, j < e → ¬ avl nm ne e S (ro j)
theorem m_tot (hf : feas nm ne w my p q) {τ : Nat → Nat} (h1 : ∀ j, j < nm + ne → τ j < nm + ne) (h2 : ∀ i j, i < nm + ne → j < nm + ne → τ i = τ j → i = j) : sm p (nm + ne) + sm q (nm + ne) ≤ ss (fun j => cst nm ne w my (τ j) j) 0 (nm + ne) := by
  rw [← sm_ss, ← sm_perm (nm + ne) τ h1 h2 p, ← sm_add]
  exact sm_le _ (fun j hj => hf _ _ (h1 j hj) hj)
theorem m_tot_eq (hf : feas nm ne w my p q) {τ : Nat → Nat} (h1 : ∀ j, j < nm + ne → τ j < nm + ne) (h2 : ∀ i j, i < nm + ne → j < nm + ne → τ i = τ j → i = j) (h3 : ss (fun j => cst nm ne w my (τ j) j) 0 (nm + ne) ≤ sm p (nm + ne) + sm q (nm + ne)) : tght nm ne w my p q τ := by
  rw [← sm_ss, ← sm_perm (nm + ne) τ h1 h2 p, ← sm_add] at h3
  exact fun j hj => sm_eq_of (nm + ne) (fun j hj => hf _ _ (h1 j hj) hj) h3 j hj
theorem tght.tot {ro co : Nat → Nat} (h : tght nm ne w my p q ro) (hm : PMok (nm + ne) ro co) : ss (fun j => cst nm ne w my (ro j) j) 0 (nm + ne) = sm p (nm + ne) + sm q (nm + ne) := by
  rw [← sm_ss, ← sm_perm (nm + ne) ro (fun j hj => (hm.1 j hj).1) (fun i j hi hj e => hm.inj hi hj e) p, ← sm_add]
  exact sm_congr _ (fun j hj => (h j hj).symm)
/-- a beginning, and what is left, put together -/
theorem m_glue {ro co : Nat → Nat} {e : Nat} {S σ : Nat → Nat} (hm : PMok (nm + ne) ro co) (hpre : mpre nm ne e S ro) (he : e ≤ ne) (h1 : ∀ j, e ≤ j → j < nm + ne → avl nm ne e S (σ j)) (h2 : ∀ i j, e ≤ i → e ≤ j → i < nm + ne → j < nm + ne → σ i = σ j → i = j) :
    (∀ j, j < nm + ne → (if j < e then ro j else σ j) < nm + ne) ∧ ∀ i j, i < nm + ne → j < nm + ne → (if i < e then ro i else σ i) = (if j < e then ro j else σ j) → i = j := by
  refine ⟨fun j hj => ?_, fun i j hi hj q => ?_⟩
  · split
    · exact (hm.1 j hj).1
    · rcases h1 j (by omega) hj with ⟨m, hm2, hr⟩ | ⟨l, hl, hl2, hr⟩
      · rw [hr]
        have := hpre.1.1 m hm2
        -- the men's rows are among the rows left over by the beginning
        omega
      · omega
  · by_cases e1 : i < e <;> by_cases e2 : j < e
    · rw [if_pos e1, if_pos e2] at q
      exact hm.inj hi hj q
    · rw [if_pos e1, if_neg e2] at q
      exact absurd (by rw [q]; exact h1 j (by omega) hj) (hpre.2.2 i e1)
    · rw [if_neg e1, if_pos e2] at q
      exact absurd (by rw [← q]; exact h1 i (by omega) hi) (hpre.2.2 j e2)
    · rw [if_neg e1, if_neg e2] at q
      exact h2 i j (by omega) (by omega) hi hj q
theorem ss_split {g : Nat → Int} {e n : Nat} (h : e ≤ n) : ss g 0 n = ss g 0 e + ss g e (n - e) := by
  have := ss_app (g := g) e 0 (n - e)
  rw [show e + (n - e) = n by omega, Nat.zero_add] at this
  exact this
/-- what is left costs as the best plan -/
theorem m_rest (hp : mpok nm ne w my) (hf : feas nm ne w my p q) {ro co : Nat → Nat} (ht : tght nm ne w my p q ro) (hm : PMok (nm + ne) ro co) {f e : Nat} {S : Nat → Nat} (he : e + f = ne) (hpre : mpre nm ne e S ro) :
    ss (fun j => cst nm ne w my (ro j) j) e (f + nm) = -(mV nm w my f e S) ∧ sm p (nm + ne) + sm q (nm + ne) = ss (fun j => cst nm ne w my (ro j) j) 0 e - mV nm w my f e S := by
  have hlow := m_lb hp f e S ro he hpre.1 hpre.2.1 (fun i j _ _ c d q => hm.inj c d q)
  obtain ⟨σ, h1, h2, h3⟩ := m_at hp f e S he hpre.1
  obtain ⟨g1, g2⟩ := m_glue hm hpre (by omega) h1 h2
  have h4 := m_tot hf g1 g2
  have h5 := ht.tot hm
  rw [ss_split (e := e) (by omega), show nm + ne - e = f + nm by omega] at h4 h5
  rw [ss_congr (g := fun j => cst nm ne w my (ro j) j) e 0 (fun j _ hj => by rw [if_pos (by omega)]), ss_congr (g := fun j => cst nm ne w my (σ j) j) (f + nm) e (fun j a _ => by rw [if_neg (by omega)])] at h4
  exact ⟨by omega, by omega⟩
/-- rows left over are the same for every assignment with that beginning -/
theorem m_avl {ro co ro2 co2 : Nat → Nat} {e : Nat} {S : Nat → Nat} (hm : PMok (nm + ne) ro co) (hm2 : PMok (nm + ne) ro2 co2) (hpre : mpre nm ne e S ro) (hag : ∀ j, j < e → ro2 j = ro j) (he : e ≤ nm + ne) : ∀ j, e ≤ j → j < nm + ne → avl nm ne e S (ro2 j) := by
  intro j h1 h2
  have h3 := (hm2.1 j h2).1
  obtain ⟨h4, h5⟩ := hm.2 _ h3
  by_cases h6 : co (ro2 j) < e
  · have h7 : ro2 (co (ro2 j)) = ro2 j := by rw [hag _ h6, h5]
    have := hm2.inj (by omega) h2 h7
    omega
  · rw [← h5]
    exact hpre.2.1 _ (by omega) h4
theorem mpre.cons {ro ro2 : Nat → Nat} {e : Nat} {S : Nat → Nat} (hpre : mpre nm ne e S ro) (h1 : ∀ j, e ≤ j → j < nm + ne → avl nm ne e S (ro2 j)) (h2 : ∀ j, j < e → ro2 j = ro j) : mpre nm ne e S ro2 := ⟨hpre.1, h1, fun j hj => by rw [h2 j hj]; exact hpre.2.2 j hj⟩
/-- the next event goes to man m -/
theorem mpre.man {ro co : Nat → Nat} {e m : Nat} {S : Nat → Nat} (hm : PMok (nm + ne) ro co) (hpre : mpre nm ne e S ro) (he : e < ne) (hmn : m < nm) (hr : ro e = S m) : mpre nm ne (e + 1) (upS S m (nm + e)) ro := by
  refine ⟨hpre.1.up, fun j h1 h2 => ?_, fun j hj h => ?_⟩
  · have hj : ro j ≠ S m := fun q => by have := hm.inj h2 (by omega) (q.trans hr.symm); omega
    rcases hpre.2.1 j (by omega) h2 with ⟨k, hk, hk2⟩ | ⟨l, hl, hl2, hl3⟩
    · have : k ≠ m := fun q => hj (by rw [hk2, q])
      exact Or.inl ⟨k, hk, by rw [upS_ne this]; exact hk2⟩
    · by_cases e1 : l = e
      · exact Or.inl ⟨m, hmn, by rw [upS_eq, hl3, e1]⟩
      · exact Or.inr ⟨l, by omega, hl2, hl3⟩
  · have h0 : avl nm ne e S (ro j) ∧ ro j ≠ S m := by
      rcases h with ⟨k, hk, hk2⟩ | ⟨l, hl, hl2, hl3⟩
      · by_cases ek : k = m
        · rw [ek, upS_eq] at hk2
          have := hpre.1.1 m hmn
          exact ⟨Or.inr ⟨e, Nat.le_refl e, he, hk2⟩, by omega⟩
        · rw [upS_ne ek] at hk2
          exact ⟨Or.inl ⟨k, hk, hk2⟩, fun z => ek (hpre.1.2 k m hk hmn (hk2.symm.trans z))⟩
      · have := hpre.1.1 m hmn
        exact ⟨Or.inr ⟨l, by omega, hl2, hl3⟩, by omega⟩
    by_cases hje : j = e
    · exact h0.2 (by rw [hje]; exact hr)
    · exact hpre.2.2 j (by omega) h0.1
theorem mpre.none {ro co : Nat → Nat} {e : Nat} {S : Nat → Nat} (hm : PMok (nm + ne) ro co) (hpre : mpre nm ne e S ro) (he : e < ne) (hr : ro e = nm + e) : mpre nm ne (e + 1) S ro := by
  refine ⟨hpre.1.sk, fun j h1 h2 => ?_, fun j hj h => ?_⟩
  · rcases hpre.2.1 j (by omega) h2 with h3 | ⟨l, hl, hl2, hl3⟩
    · exact Or.inl h3
    · have : l ≠ e := fun z => by have := hm.inj h2 (show e < nm + ne by omega) (by rw [hl3, hr, z]); omega
      exact Or.inr ⟨l, by omega, hl2, hl3⟩
  · have h0 : avl nm ne e S (ro j) ∧ ro j ≠ nm + e := by
      rcases h with ⟨k, hk, hk2⟩ | ⟨l, hl, hl2, hl3⟩
      · have := hpre.1.1 k hk
        exact ⟨Or.inl ⟨k, hk, hk2⟩, by omega⟩
      · exact ⟨Or.inr ⟨l, by omega, hl2, hl3⟩, by omega⟩
    by_cases hje : j = e
    · exact h0.2 (by rw [hje]; exact hr)
    · exact hpre.2.2 j (by omega) h0.1
/-- an assignment at no loss that gives the event to that man: then he is one with whom nothing is lost -/
theorem m_k1 (hp : mpok nm ne w my) (hf : feas nm ne w my p q) {ro co : Nat → Nat} (ht : tght nm ne w my p q ro) (hm : PMok (nm + ne) ro co) {f e m : Nat} {S : Nat → Nat} (he : e + (f + 1) = ne) (hpre : mpre nm ne e S ro) (hmn : m < nm) (hr : ro e = S m) : mpk nm w my f e S m = true := by
  have h1 := (m_rest hp hf ht hm he hpre).1
  have hne : S m ≠ nm + e := by have := hpre.1.1 m hmn; omega
  have hnn := mV_nn (nm := nm) (w := w) (my := my) (f + 1) e S
  rw [show f + 1 + nm = (f + nm) + 1 by omega] at h1
  cases hmy : my (S m) e with
  | false =>
    have := ss_dear hp (σ := ro) (k := f + nm) (e := e) (by rw [hr]; exact cst_no (by omega) hne hmy)
    omega
  | true =>
    have h2 := (m_rest hp hf ht hm (f := f) (e := e + 1) (by omega) (hpre.man hm (by omega) hmn hr)).1
    have h3 : cst nm ne w my (ro e) e + ss (fun j => cst nm ne w my (ro j) j) (e + 1) (f + nm) = -(mV nm w my (f + 1) e S) := h1
    rw [hr, cst_do (by omega) hne hmy, h2] at h3
    unfold mpk
    rw [hmy, Bool.true_and]
    exact decide_eq_true (by omega)
/-- and the other way round -/
theorem m_k2 (hp : mpok nm ne w my) (hf : feas nm ne w my p q) {ro co : Nat → Nat} (ht : tght nm ne w my p q ro) (hm : PMok (nm + ne) ro co) {f e m : Nat} {S : Nat → Nat} (he : e + (f + 1) = ne) (hpre : mpre nm ne e S ro) (hmn : m < nm) (hk : mpk nm w my f e S m = true) :
    ∃ τ : Nat → Nat, (∀ j, j < nm + ne → τ j < nm + ne) ∧ (∀ i j, i < nm + ne → j < nm + ne → τ i = τ j → i = j) ∧ (∀ j, j < e → τ j = ro j) ∧ τ e = S m ∧ tght nm ne w my p q τ := by
  unfold mpk at hk
  obtain ⟨hmy, hv⟩ := Bool.and_eq_true_iff.mp hk
  have hv := of_decide_eq_true hv
  obtain ⟨σ, h1, h2, h3⟩ := m_at hp f (e + 1) (upS S m (nm + e)) (by omega) hpre.1.up
  have hSm := hpre.1.1 m hmn
  have hav : ∀ r2, avl nm ne (e + 1) (upS S m (nm + e)) r2 → avl nm ne e S r2 ∧ r2 ≠ S m := by
    intro r2 hr2
    rcases hr2 with ⟨k, hk, hk2⟩ | ⟨l, hl, hl2, hl3⟩
    · by_cases ek : k = m
      · rw [ek, upS_eq] at hk2
        exact ⟨Or.inr ⟨e, Nat.le_refl e, by omega, hk2⟩, by omega⟩
      · rw [upS_ne ek] at hk2
        exact ⟨Or.inl ⟨k, hk, hk2⟩, fun z => ek (hpre.1.2 k m hk hmn (hk2.symm.trans z))⟩
    · exact ⟨Or.inr ⟨l, by omega, hl2, hl3⟩, by omega⟩
  have a1 : ∀ j, e ≤ j → j < nm + ne → avl nm ne e S (if j = e then S m else σ j) := fun j a b => by
    by_cases ej : j = e
    · rw [if_pos ej]; exact Or.inl ⟨m, hmn, rfl⟩
    · rw [if_neg ej]; exact (hav _ (h1 j (by omega) b)).1
  have a2 : ∀ i j, e ≤ i → e ≤ j → i < nm + ne → j < nm + ne → (if i = e then S m else σ i) = (if j = e then S m else σ j) → i = j := fun i j a b c d z => by
    by_cases e1 : i = e <;> by_cases e2 : j = e
    · omega
    · rw [if_pos e1, if_neg e2] at z
      exact absurd z.symm (hav _ (h1 j (by omega) d)).2
    · rw [if_neg e1, if_pos e2] at z
      exact absurd z (hav _ (h1 i (by omega) c)).2
    · rw [if_neg e1, if_neg e2] at z
      exact h2 i j (by omega) (by omega) c d z
  obtain ⟨g1, g2⟩ := m_glue (σ := fun j => if j = e then S m else σ j) hm hpre (by omega) a1 a2
  refine ⟨fun j => if j < e then ro j else if j = e then S m else σ j, g1, g2, fun j hj => if_pos hj, by show (if e < e then ro e else if e = e then S m else σ e) = S m; rw [if_neg (by omega), if_pos rfl], m_tot_eq hf g1 g2 ?_⟩
  have h4 := (m_rest hp hf ht hm he hpre).2
  rw [ss_split (e := e) (by omega), show nm + ne - e = (f + nm) + 1 by omega, ss_congr (g := fun j => cst nm ne w my (ro j) j) e 0 (fun j _ hj => by rw [if_pos (by omega)])]
  show _ + (cst nm ne w my (if e < e then ro e else if e = e then S m else σ e) e + ss _ (e + 1) (f + nm)) ≤ _
  rw [if_neg (by omega), if_pos rfl, cst_do (by omega) (by omega) hmy, ss_congr (g := fun j => cst nm ne w my (σ j) j) (f + nm) (e + 1) (fun j a _ => by rw [if_neg (by omega), if_neg (by omega)]), h3, h4]
  omega
/-- who has no man has himself -/
theorem m_k3 (hp : mpok nm ne w my) (hf : feas nm ne w my p q) {ro co : Nat → Nat} (ht : tght nm ne w my p q ro) (hm : PMok (nm + ne) ro co) {f e : Nat} {S : Nat → Nat} (he : e + (f + 1) = ne) (hpre : mpre nm ne e S ro) (hno : ∀ m, m < nm → ro e ≠ S m) : ro e = nm + e := by
  rcases hpre.2.1 e (Nat.le_refl e) (by omega) with ⟨m, hmn, hr⟩ | ⟨l, hl, hl2, hr⟩
  · exact absurd hr (hno m hmn)
  · by_cases e1 : l = e
    · rw [hr, e1]
    · have h1 := (m_rest hp hf ht hm he hpre).1
      have hnn := mV_nn (nm := nm) (w := w) (my := my) (f + 1) e S
      rw [show f + 1 + nm = (f + nm) + 1 by omega] at h1
      have := ss_dear hp (σ := ro) (k := f + nm) (e := e) (by rw [hr]; exact cst_no (by omega) (by omega) (hp.2.2 l e hl hl2))
      omega
end MTIGHT
