/-! fillings: the late way and the table say the same. -/
def gfold (l : List MC) (F G : Int) : List EV → GS → Option GS
  | [], s => some s
  | e :: r, s => match gstep l F G s e with | none => none | some s' => gfold l F G r s'
theorem grun_fold {l : List MC} {F G m : Int} : ∀ (es : List EV) (s : GS), grun l F G m es s = gfold l F G (bfil es m) s
  | [], s => rfl
  | e :: r, s => by
    unfold grun
    by_cases h : e.2.1 = m
    · rw [if_pos h]
      have hb : bfil (e :: r) m = e :: bfil r m := by unfold bfil; rw [List.filter_cons]; simp [h]
      rw [hb]
      unfold gfold
      cases gstep l F G s e with
      | none => rfl
      | some s' => exact grun_fold r s'
    · rw [if_neg h]
      have hb : bfil (e :: r) m = bfil r m := by unfold bfil; rw [List.filter_cons]; simp [h]
      rw [hb]
      exact grun_fold r s
def psum (T : List EV) : Nat → Int
  | 0 => 0
  | j + 1 => psum T j + fnum T j
theorem psum_mono {T : List EV} (hT : ∀ k, 0 ≤ fnum T k) {i : Nat} : ∀ {j : Nat}, i ≤ j → psum T i ≤ psum T j
  | 0, h => by rw [show i = 0 by omega]; exact Int.le_refl _
  | j + 1, h => by
    by_cases hi : i = j + 1
    · rw [hi]; exact Int.le_refl _
    · have := psum_mono hT (i := i) (j := j) (by omega)
      have := hT j
      show psum T i ≤ psum T j + fnum T j
      omega
def MinOf (A : Nat → Prop) (v : Nat → Int) (r : Int) : Prop := (r = -1 ∧ ∀ k, ¬ A k) ∨ ((∃ k, A k ∧ v k = r) ∧ ∀ k, A k → r ≤ v k)
def gmn (o F : Int) (T : List EV) (f : Nat → Int) : Nat → Int → Int → Int
  | 0, _, c => c
  | i + 1, s, c => gmn o F T f i (s + fnum T i) (if s + fnum T i ≤ F ∧ f i ≠ -1 ∧ (c = -1 ∨ f i + o < c) then f i + o else c)
theorem finner_g {F : Int} {T : List EV} {f : Nat → Int} : ∀ (i : Nat) (s c : Int), finner F T f i s c = gmn 1 F T f i s c
  | 0, _, _ => rfl
  | i + 1, s, c => finner_g i _ _
theorem frest_g {F : Int} {T : List EV} {f : Nat → Int} : ∀ (i : Nat) (s c : Int), frest F T f i s c = gmn 0 F T f i s c
  | 0, _, _ => rfl
  | i + 1, s, c => by
    unfold frest gmn
    rw [Int.add_zero]
    exact frest_g i _ _
theorem gmn_congr {o F : Int} {T : List EV} {f g : Nat → Int} : ∀ (i : Nat) (s c : Int), (∀ k, k < i → f k = g k) → gmn o F T f i s c = gmn o F T g i s c
  | 0, _, _, _ => rfl
  | i + 1, s, c, h => by
    unfold gmn
    rw [h i (by omega)]
    exact gmn_congr i _ _ (fun k hk => h k (by omega))
theorem gmn_min {o F : Int} {T : List EV} {f : Nat → Int} {j : Nat} (ho : 0 ≤ o) (hf : ∀ k, -1 ≤ f k) : ∀ (i : Nat) (s c : Int), i ≤ j → s = psum T j - psum T i → MinOf (fun k => i ≤ k ∧ k < j ∧ f k ≠ -1 ∧ psum T j - psum T k ≤ F) (fun k => f k + o) c → MinOf (fun k => k < j ∧ f k ≠ -1 ∧ psum T j - psum T k ≤ F) (fun k => f k + o) (gmn o F T f i s c)
  | 0, s, c, hi, hs, hc => by
    unfold gmn
    rcases hc with ⟨h1, h2⟩ | ⟨⟨k, h1, h2⟩, h3⟩
    · exact Or.inl ⟨h1, fun k hk => h2 k ⟨Nat.zero_le _, hk⟩⟩
    · exact Or.inr ⟨⟨k, h1.2, h2⟩, fun k hk => h3 k ⟨Nat.zero_le _, hk⟩⟩
  | i + 1, s, c, hi, hs, hc => by
    have hps : psum T (i + 1) = psum T i + fnum T i := rfl
    have hs' : s + fnum T i = psum T j - psum T i := by omega
    unfold gmn
    refine gmn_min ho hf i _ _ (by omega) hs' ?_
    rw [hs']
    have hfi := hf i
    by_cases hA : psum T j - psum T i ≤ F ∧ f i ≠ -1
    · rcases hc with ⟨h1, h2⟩ | ⟨⟨k, h1, h2⟩, h3⟩
      · rw [if_pos ⟨hA.1, hA.2, Or.inl h1⟩]
        refine Or.inr ⟨⟨i, ⟨Nat.le_refl _, by omega, hA.2, hA.1⟩, rfl⟩, fun k hk => ?_⟩
        by_cases hki : k = i
        · rw [hki]; exact Int.le_refl _
        · exact absurd ⟨by omega, hk.2⟩ (h2 k)
      · dsimp only at h2
        have hfk := hf k
        have hk1 := h1.2.2.1
        by_cases hlt : f i + o < c
        · rw [if_pos ⟨hA.1, hA.2, Or.inr hlt⟩]
          refine Or.inr ⟨⟨i, ⟨Nat.le_refl _, by omega, hA.2, hA.1⟩, rfl⟩, fun k hk => ?_⟩
          by_cases hki : k = i
          · rw [hki]; exact Int.le_refl _
          · have h4 : c ≤ f k + o := h3 k ⟨by omega, hk.2⟩
            show f i + o ≤ f k + o
            omega
        · rw [if_neg (by omega)]
          refine Or.inr ⟨⟨k, ⟨by have := h1.1; omega, h1.2⟩, h2⟩, fun k hk => ?_⟩
          by_cases hki : k = i
          · rw [hki]
            show c ≤ f i + o
            omega
          · exact h3 k ⟨by omega, hk.2⟩
    · rw [if_neg (by intro q; exact hA ⟨q.1, q.2.1⟩)]
      have hne : ∀ k, (i ≤ k ∧ k < j ∧ f k ≠ -1 ∧ psum T j - psum T k ≤ F) → i + 1 ≤ k ∧ k < j ∧ f k ≠ -1 ∧ psum T j - psum T k ≤ F := by
        intro k hk
        by_cases hki : k = i
        · subst hki
          exact absurd ⟨hk.2.2.2, hk.2.2.1⟩ hA
        · exact ⟨by omega, hk.2⟩
      rcases hc with ⟨h1, h2⟩ | ⟨⟨k, h1, h2⟩, h3⟩
      · exact Or.inl ⟨h1, fun k hk => h2 k (hne k hk)⟩
      · exact Or.inr ⟨⟨k, ⟨by have := h1.1; omega, h1.2⟩, h2⟩, fun k hk => h3 k (hne k hk)⟩
theorem fdn_st {l : List MC} {F G : Int} {T : List EV} : ∀ (n k : Nat), k < n → fdn l F G T n k = fval l F G T k (fdn l F G T k)
  | 0, k, h => by omega
  | n + 1, k, h => by
    show (if k = n then fval l F G T n (fdn l F G T n) else fdn l F G T n k) = _
    by_cases hk : k = n
    · rw [if_pos hk, hk]
    · rw [if_neg hk]
      exact fdn_st n k (by omega)
/-- the table's last values -/
def fD (l : List MC) (F G : Int) (T : List EV) (k : Nat) : Int := fval l F G T k (fdn l F G T k)
theorem fD_val {l : List MC} {F G : Int} {T : List EV} {j : Nat} : fD l F G T j = if j = 0 then 0 else if G ≤ ftik T j - ovr l T j then gmn 1 F T (fD l F G T) j 0 (-1) else -1 := by
  show fval l F G T j (fdn l F G T j) = _
  unfold fval
  rw [finner_g, gmn_congr (f := fdn l F G T j) (g := fD l F G T) j 0 (-1) (fun k hk => fdn_st j k hk)]
theorem fD_ge {l : List MC} {F G : Int} {T : List EV} (k : Nat) : -1 ≤ fD l F G T k := by
  have := (fdn_rng (l := l) (F := F) (G := G) (T := T) (k + 1) k).1
  rw [fdn_st (k + 1) k (by omega)] at this
  exact this
theorem fD_min {l : List MC} {F G : Int} {T : List EV} {j : Nat} (hj : j ≠ 0) (hc : G ≤ ftik T j - ovr l T j) : MinOf (fun k => k < j ∧ fD l F G T k ≠ -1 ∧ psum T j - psum T k ≤ F) (fun k => fD l F G T k + 1) (fD l F G T j) := by
  have h := gmn_min (o := 1) (F := F) (T := T) (f := fD l F G T) (j := j) (by decide) fD_ge j 0 (-1) (Nat.le_refl _) (by omega) (Or.inl ⟨rfl, fun k hk => by omega⟩)
  have e : fD l F G T j = gmn 1 F T (fD l F G T) j 0 (-1) := by
    have := fD_val (l := l) (F := F) (G := G) (T := T) (j := j)
    rw [if_neg hj, if_pos hc] at this
    exact this
  rw [← e] at h
  exact h
theorem fD_no {l : List MC} {F G : Int} {T : List EV} {j : Nat} (hj : j ≠ 0) (hc : ¬ G ≤ ftik T j - ovr l T j) : fD l F G T j = -1 := by rw [fD_val, if_neg hj, if_neg hc]
theorem fD_0 {l : List MC} {F G : Int} {T : List EV} : fD l F G T 0 = 0 := by rw [fD_val, if_pos rfl]
theorem fans_min {l : List MC} {F G : Int} {T : List EV} (hn : T.length ≠ 0) : ∃ r, MinOf (fun k => k < T.length ∧ fD l F G T k ≠ -1 ∧ psum T T.length - psum T k ≤ F) (fD l F G T) r ∧ fans l F G T = if r = -1 then -2 else r := by
  refine ⟨gmn 0 F T (fD l F G T) T.length 0 (-1), ?_, ?_⟩
  · have h := gmn_min (o := 0) (F := F) (T := T) (f := fD l F G T) (j := T.length) (by decide) fD_ge T.length 0 (-1) (Nat.le_refl _) (by omega) (Or.inl ⟨rfl, fun k hk => by omega⟩)
    simpa using h
  · unfold fans
    rw [if_neg hn, frest_g, gmn_congr (f := fdn l F G T T.length) (g := fD l F G T) T.length 0 (-1) (fun k hk => fdn_st T.length k hk)]
