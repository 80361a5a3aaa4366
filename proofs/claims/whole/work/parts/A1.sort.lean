/-! The order of the events: both sides. -/
def cntB (p : Nat → Bool) : Nat → Nat
  | 0 => 0
  | n + 1 => cntB p n + cond (p n) 1 0
theorem cntB_le {p q : Nat → Bool} : ∀ n, (∀ i, i < n → p i = true → q i = true) → cntB p n ≤ cntB q n
  | 0, _ => Nat.le_refl _
  | n + 1, h => by
    have ih := cntB_le (p := p) (q := q) n (fun i hi => h i (by omega))
    have hn := h n (by omega)
    unfold cntB
    cases hp : p n
    · cases q n <;> simp <;> omega
    · rw [hn hp]
      simp
      omega
theorem cntB_lt {p q : Nat → Bool} : ∀ n, (∀ i, i < n → p i = true → q i = true) → (∃ i, i < n ∧ q i = true ∧ p i = false) → cntB p n < cntB q n
  | 0, _, h => by obtain ⟨i, hi, -⟩ := h; omega
  | n + 1, h, hx => by
    have ih := cntB_le (p := p) (q := q) n (fun i hi => h i (by omega))
    have hn := h n (by omega)
    obtain ⟨i, hi, h1, h2⟩ := hx
    unfold cntB
    by_cases e : i = n
    · subst e
      rw [h1, h2]
      simp
      omega
    · have ih2 := cntB_lt (p := p) (q := q) n (fun i hi => h i (by omega)) ⟨i, by omega, h1, h2⟩
      cases hp : p n
      · cases q n <;> simp <;> omega
      · rw [hn hp]
        simp
        omega
theorem cntB_n {p : Nat → Bool} : ∀ n, cntB p n ≤ n
  | 0 => Nat.le_refl _
  | n + 1 => by
    have := cntB_n (p := p) n
    unfold cntB
    cases p n <;> simp <;> omega
theorem cntB_congr {p q : Nat → Bool} : ∀ n, (∀ i, i < n → p i = q i) → cntB p n = cntB q n
  | 0, _ => rfl
  | n + 1, h => by
    unfold cntB
    rw [cntB_congr n (fun i hi => h i (by omega)), h n (by omega)]
def tkA (es : List EV) (i : Nat) : Int := match es[i]? with
  | some e => e.1
  | none => 0
theorem tkA_e {es : List EV} {i : Nat} {e : EV} (h : es[i]? = some e) : tkA es i = e.1 := by unfold tkA; rw [h]
/-- goes ahead of k -/
def ahd (es : List EV) (k i : Nat) : Bool := decide (tkA es i < tkA es k) || (decide (i < k) && decide (tkA es i = tkA es k))
def rkN (es : List EV) (n k : Nat) : Nat := cntB (ahd es k) n
theorem rk_inj {es : List EV} {n k k' : Nat} (hk : k < n) (hk' : k' < n) (h : rkN es n k = rkN es n k') : k = k' := by
  have key : ∀ a b : Nat, a < n → ahd es b a = true → rkN es n a < rkN es n b := by
    intro a b ha hab
    unfold rkN
    unfold ahd at hab
    have hab : tkA es a < tkA es b ∨ (a < b ∧ tkA es a = tkA es b) := by simpa using hab
    refine cntB_lt n (fun i hi hp => ?_) ⟨a, ha, by unfold ahd; simpa using hab, by unfold ahd; simp⟩
    unfold ahd at hp ⊢
    have hp : tkA es i < tkA es a ∨ (i < a ∧ tkA es i = tkA es a) := by simpa using hp
    have : tkA es i < tkA es b ∨ (i < b ∧ tkA es i = tkA es b) := by omega
    simpa using this
  refine Decidable.byContradiction (fun hne => ?_)
  have hc : ahd es k' k = true ∨ ahd es k k' = true := by
    unfold ahd
    have : (tkA es k < tkA es k' ∨ (k < k' ∧ tkA es k = tkA es k')) ∨ (tkA es k' < tkA es k ∨ (k' < k ∧ tkA es k' = tkA es k)) := by omega
    simpa using this
  rcases hc with hc | hc
  · have := key k k' hk hc
    omega
  · have := key k' k hk' hc
    omega
theorem rk_lt {es : List EV} {n k : Nat} (hk : k < n) : rkN es n k < n := by
  unfold rkN
  have h1 := cntB_lt (p := ahd es k) (q := fun _ => true) n (fun _ _ _ => rfl) ⟨k, hk, rfl, by unfold ahd; simp⟩
  have h2 := cntB_n (p := fun _ => true) n
  omega
/-- an event sinks past those of later ticks: it comes to place p -/
theorem sink_spec : ∀ (k : Nat) (es : List EV), k < es.length → (∀ i j, i ≤ j → j < k → tkA es i ≤ tkA es j) →
    ∃ p, p ≤ k ∧ (∀ i, i < p → tkA es i ≤ tkA es k) ∧ (∀ i, p ≤ i → i < k → tkA es k < tkA es i) ∧ (∀ i, (sinkL k es)[i]? = if i < p then es[i]? else if i = p then es[k]? else if i ≤ k then es[i - 1]? else es[i]?)
  | 0, es, _, _ => ⟨0, Nat.le_refl _, fun i hi => by omega, fun i h1 h2 => by omega, fun i => by
      show es[i]? = _
      by_cases h : i = 0
      · subst h; simp
      · rw [if_neg (by omega), if_neg h, if_neg (by omega)]⟩
  | k + 1, es, hl, hs => by
    have ha : es[k]? = some es[k] := List.getElem?_eq_getElem (by omega)
    have hb : es[k + 1]? = some es[k + 1] := List.getElem?_eq_getElem hl
    generalize es[k] = a at ha
    generalize es[k + 1] = b at hb
    have ta := tkA_e ha
    have tb := tkA_e hb
    unfold sinkL
    rw [ha, hb]
    dsimp only
    by_cases hlt : b.1 < a.1
    · rw [if_pos hlt]
      have hg : ∀ i, ((es.set k b).set (k + 1) a)[i]? = if i = k + 1 then some a else if i = k then some b else es[i]? := by
        intro i
        rw [List.getElem?_set, List.getElem?_set]
        by_cases h1 : i = k + 1
        · subst h1
          rw [if_pos rfl, if_pos (by rw [List.length_set]; exact hl), if_pos rfl]
        · rw [if_neg (fun q => h1 q.symm), if_neg h1]
          by_cases h2 : i = k
          · subst h2
            rw [if_pos rfl, if_pos (by omega), if_pos rfl]
          · rw [if_neg (fun q => h2 q.symm), if_neg h2]
      have ht : ∀ i, tkA ((es.set k b).set (k + 1) a) i = if i = k + 1 then a.1 else if i = k then b.1 else tkA es i := by
        intro i
        unfold tkA
        rw [hg]
        by_cases h1 : i = k + 1
        · rw [if_pos h1, if_pos h1]
        · rw [if_neg h1, if_neg h1]
          by_cases h2 : i = k
          · rw [if_pos h2, if_pos h2]
          · rw [if_neg h2, if_neg h2]
      obtain ⟨p, p1, p2, p3, p4⟩ := sink_spec k ((es.set k b).set (k + 1) a) (by rw [List.length_set, List.length_set]; omega) (fun i j hij hj => by
        rw [ht, ht, if_neg (by omega), if_neg (by omega), if_neg (by omega), if_neg (by omega)]
        exact hs i j hij (by omega))
      refine ⟨p, by omega, fun i hi => ?_, fun i h1 h2 => ?_, fun i => ?_⟩
      · have := p2 i hi
        rw [ht, ht, if_neg (by omega), if_neg (by omega), if_neg (by omega), if_pos rfl] at this
        omega
      · by_cases e : i = k
        · subst e; omega
        · have := p3 i h1 (by omega)
          rw [ht, ht, if_neg (by omega), if_pos rfl, if_neg (by omega), if_neg (by omega)] at this
          omega
      · rw [p4 i]
        by_cases h1 : i < p
        · rw [if_pos h1, if_pos h1, hg, if_neg (by omega), if_neg (by omega)]
        · rw [if_neg h1, if_neg h1]
          by_cases h2 : i = p
          · rw [if_pos h2, if_pos h2, hg, if_neg (by omega), if_pos rfl]
          · rw [if_neg h2, if_neg h2]
            by_cases h3 : i ≤ k
            · rw [if_pos h3, if_pos (by omega), hg, if_neg (by omega), if_neg (by omega)]
            · rw [if_neg h3]
              by_cases h4 : i = k + 1
              · rw [if_pos (by omega), hg, if_pos h4, h4]
                exact ha.symm
              · rw [if_neg (by omega), hg, if_neg h4, if_neg (by omega)]
    · rw [if_neg hlt]
      refine ⟨k + 1, Nat.le_refl _, fun i hi => ?_, fun i h1 h2 => by omega, fun i => ?_⟩
      · have := hs i k (by omega) (by omega)
        omega
      · by_cases h1 : i < k + 1
        · rw [if_pos h1]
        · rw [if_neg h1]
          by_cases h2 : i = k + 1
          · rw [if_pos h2, h2]
            exact hb
          · rw [if_neg h2, if_neg (by omega)]
theorem srt_spec {es : List EV} : ∀ n, n < es.length → (∀ j, j ≤ n → ∃ k, k ≤ n ∧ rkN es (n + 1) k = j ∧ (srtN es n)[j]? = es[k]?) ∧ (∀ i j, i ≤ j → j ≤ n → tkA (srtN es n) i ≤ tkA (srtN es n) j) ∧ (∀ i, n < i → (srtN es n)[i]? = es[i]?)
  | 0, h => by
    refine ⟨fun j hj => ⟨0, Nat.le_refl _, ?_, ?_⟩, fun i j hij hj => ?_, fun i hi => rfl⟩
    · have : rkN es 1 0 < 1 := rk_lt (by omega)
      show rkN es 1 0 = j
      omega
    · rw [show j = 0 by omega]
      rfl
    · rw [show i = 0 by omega, show j = 0 by omega]
      exact Int.le_refl _
  | n + 1, h => by
    obtain ⟨i1, i2, i3⟩ := srt_spec (es := es) n (by omega)
    have hlen : (srtN es n).length = es.length := srtN_len n
    have hnew : (srtN es n)[n + 1]? = es[n + 1]? := i3 (n + 1) (by omega)
    have tnew : tkA (srtN es n) (n + 1) = tkA es (n + 1) := by unfold tkA; rw [hnew]
    obtain ⟨p, p1, p2, p3, p4⟩ := sink_spec (n + 1) (srtN es n) (by omega) (fun i j hij hj => i2 i j hij (by omega))
    have hS : srtN es (n + 1) = sinkL (n + 1) (srtN es n) := rfl
    have rks : ∀ k, rkN es (n + 2) k = rkN es (n + 1) k + cond (ahd es k (n + 1)) 1 0 := fun k => rfl
    -- the ticks of the places ahead
    have told : ∀ j k, k ≤ n → (srtN es n)[j]? = es[k]? → tkA (srtN es n) j = tkA es k := fun j k _ hq => by unfold tkA; rw [hq]
    have tS : ∀ i, tkA (srtN es (n + 1)) i = if i < p then tkA (srtN es n) i else if i = p then tkA es (n + 1) else if i ≤ n + 1 then tkA (srtN es n) (i - 1) else tkA (srtN es n) i := by
      intro i
      rw [hS]
      unfold tkA
      rw [p4 i]
      by_cases h1 : i < p
      · rw [if_pos h1, if_pos h1]
      · rw [if_neg h1, if_neg h1]
        by_cases h2 : i = p
        · rw [if_pos h2, if_pos h2, hnew]
        · rw [if_neg h2, if_neg h2]
          by_cases h3 : i ≤ n + 1
          · rw [if_pos h3, if_pos h3]
          · rw [if_neg h3, if_neg h3]
    have hoth : ∀ j, j ≤ n + 1 → j ≠ p → ∃ k, k ≤ n ∧ rkN es (n + 2) k = j ∧ (sinkL (n + 1) (srtN es n))[j]? = es[k]? := by
      intro j hj hjp
      by_cases h1 : j < p
      · obtain ⟨k, k1, k2, k3⟩ := i1 j (by omega)
        refine ⟨k, by omega, ?_, by rw [p4, if_pos h1, k3]⟩
        have hle := p2 j h1
        rw [tnew, told j k k1 k3] at hle
        rw [rks, k2]
        have : ahd es k (n + 1) = false := by
          unfold ahd
          simp
          omega
        rw [this]
        rfl
      · obtain ⟨k, k1, k2, k3⟩ := i1 (j - 1) (by omega)
        refine ⟨k, by omega, ?_, by rw [p4, if_neg h1, if_neg hjp, if_pos hj, k3]⟩
        have hle := p3 (j - 1) (by omega) (by omega)
        rw [tnew, told (j - 1) k k1 k3] at hle
        rw [rks, k2]
        have : ahd es k (n + 1) = true := by
          unfold ahd
          simp
          omega
        rw [this]
        show j - 1 + 1 = j
        omega
    refine ⟨fun j hj => ?_, fun i j hij hj => ?_, fun i hi => ?_⟩
    · rw [hS]
      by_cases h2 : j = p
      · refine ⟨n + 1, Nat.le_refl _, ?_, by rw [p4, if_neg (by omega), if_pos h2, hnew]⟩
        show rkN es (n + 2) (n + 1) = j
        rw [h2]
        have hr : rkN es (n + 2) (n + 1) < n + 2 := rk_lt (by omega)
        refine Decidable.byContradiction (fun hne => ?_)
        obtain ⟨k, k1, k2, -⟩ := hoth _ (by omega) hne
        have := rk_inj (es := es) (n := n + 2) (by omega) (by omega) k2
        omega
      · obtain ⟨k, k1, k2, k3⟩ := hoth j hj h2
        exact ⟨k, by omega, k2, k3⟩
    · rw [tS, tS]
      by_cases h1 : j < p
      · rw [if_pos h1, if_pos (by omega)]
        exact i2 i j hij (by omega)
      · rw [if_neg h1]
        by_cases h2 : j = p
        · rw [if_pos h2]
          by_cases h3 : i < p
          · rw [if_pos h3]
            have := p2 i h3
            omega
          · rw [if_neg h3, if_pos (by omega)]
            exact Int.le_refl _
        · rw [if_neg h2, if_pos (show j ≤ n + 1 by omega)]
          have hj3 := p3 (j - 1) (by omega) (by omega)
          by_cases h3 : i < p
          · rw [if_pos h3]
            have := p2 i h3
            omega
          · rw [if_neg h3]
            by_cases h4 : i = p
            · rw [if_pos h4]
              omega
            · rw [if_neg h4, if_pos (by omega)]
              exact i2 (i - 1) (j - 1) (by omega) (by omega)
    · rw [hS, p4, if_neg (by omega), if_neg (by omega), if_neg (by omega)]
      exact i3 i (by omega)
