theorem fill_dead {l : List MC} {F G : Int} {T : List EV} (hT : ∀ k, 0 ≤ fnum T k) {j c : Nat} (hj : j < T.length) (h1 : ∀ k, k ≤ j → fD l F G T k ≠ -1 → k ≤ c) (h2 : F < psum T (j + 1) - psum T c) : fans l F G T = -2 := by
  have cl : ∀ (n k : Nat), k ≤ n → j < k → fD l F G T k = -1 := by
    intro n
    induction n with
    | zero => intro k hk hjk; omega
    | succ n ih =>
      intro k hk hjk
      by_cases hc : G ≤ ftik T k - ovr l T k
      · rcases fD_min (l := l) (F := F) (T := T) (by omega : k ≠ 0) hc with ⟨q, -⟩ | ⟨⟨i, ⟨a1, a2, a3⟩, a4⟩, -⟩
        · exact q
        · exfalso
          by_cases hi : j < i
          · exact a2 (ih i (by omega) hi)
          · have b1 := h1 i (by omega) a2
            have b2 := psum_mono hT (i := i) (j := c) b1
            have b3 := psum_mono hT (i := j + 1) (j := k) (by omega)
            omega
      · exact fD_no (by omega) hc
  obtain ⟨r, hr, hf⟩ := fans_min (l := l) (F := F) (G := G) (T := T) (by omega)
  rw [hf]
  rcases hr with ⟨q, -⟩ | ⟨⟨k, ⟨a1, a2, a3⟩, -⟩, -⟩
  · rw [if_pos q]
  · exfalso
    by_cases hk : j < k
    · exact a2 (cl k k (Nat.le_refl _) hk)
    · have b1 := h1 k (by omega) a2
      have b2 := psum_mono hT (i := k) (j := c) b1
      have b3 := psum_mono hT (i := j + 1) (j := T.length) (by omega)
      omega
theorem fill_mid {l : List MC} {F G : Int} {T : List EV} (hT : ∀ k, 0 ≤ fnum T k) {p t j : Nat} {g : Int} (hpt : p ≤ t) (hp : fD l F G T p = g) (hg : 0 ≤ g) (hpj : psum T j - psum T p ≤ F) (hb : ∀ k, k < t → fD l F G T k ≠ -1 → fD l F G T k < g → F < psum T t - psum T k) :
    ∀ (n k : Nat), k ≤ n → t ≤ k → p < k → k ≤ j → fD l F G T k ≠ -1 → fD l F G T k = g + 1 := by
  intro n
  induction n with
  | zero => intro k h1 h2 h3 h4 h5; omega
  | succ n ih =>
    intro k h1 h2 h3 h4 h5
    by_cases hc : G ≤ ftik T k - ovr l T k
    · rcases fD_min (l := l) (F := F) (T := T) (by omega : k ≠ 0) hc with ⟨q, -⟩ | ⟨⟨i, ⟨a1, a2, a3⟩, a4⟩, a5⟩
      · exact absurd q h5
      · dsimp only at a4
        have m1 := psum_mono hT (i := k) (j := j) h4
        have m2 : fD l F G T k ≤ fD l F G T p + 1 := a5 p ⟨h3, by omega, by omega⟩
        by_cases hi : i < t
        · by_cases hlt : fD l F G T i < g
          · have b1 := hb i hi a2 hlt
            have b2 := psum_mono hT (i := t) (j := k) h2
            omega
          · omega
        · by_cases hip : i = p
          · subst hip
            omega
          · have := ih i (by omega) (by omega) (by omega) (by omega) a2
            omega
    · exact absurd (fD_no (by omega) hc) h5
def GInv (l : List MC) (F G : Int) (T : List EV) (j : Nat) (s : GS) : Prop := s.2.2.1 = ovr l T j ∧ ∃ p t : Nat, p ≤ t ∧ t ≤ j ∧ (p < j ∨ j = 0) ∧ fD l F G T p = s.2.2.2 ∧ 0 ≤ s.2.2.2 ∧ s.1 = F - (psum T j - psum T p) ∧ 0 ≤ s.1 ∧ (∀ k, p < k → k < t → fD l F G T k = -1) ∧ (∀ k, k < t → fD l F G T k ≠ -1 → fD l F G T k < s.2.2.2 → F < psum T t - psum T k) ∧ ((s.2.1 = -1 ∧ ∀ k, p < k → k < j → fD l F G T k = -1) ∨ ∃ c : Nat, p ≤ c ∧ c < j ∧ fD l F G T c ≠ -1 ∧ s.2.1 = psum T j - psum T c ∧ ∀ k, c < k → k < j → fD l F G T k = -1)
theorem fill_same {l : List MC} {F G : Int} {T : List EV} (hTo : ∀ (k : Nat) (e : EV), T[k]? = some e → EVok l e) (hF : 0 ≤ F) (hn : T.length ≠ 0) : ∀ (m j : Nat) (s : GS), j + m = T.length → GInv l F G T j s → gans (gfold l F G (T.drop j) s) = fans l F G T := by
  have hT : ∀ k, 0 ≤ fnum T k := fun k => (fnum_rng hTo k).1
  intro m
  induction m with
  | zero =>
    intro j s hj hi
    obtain ⟨-, p, t, i1, i2, i3, i4, i5, i6, i7, i8, i9, -⟩ := hi
    have hjn : j = T.length := by omega
    rw [List.drop_eq_nil_of_le (by omega)]
    show s.2.2.2 = _
    obtain ⟨r, hr, hf⟩ := fans_min (l := l) (F := F) (G := G) (T := T) hn
    rw [hf]
    subst hjn
    have hpn : p < T.length := by omega
    rcases hr with ⟨-, q⟩ | ⟨⟨k, ⟨a1, a2, a3⟩, a4⟩, a5⟩
    · exact absurd ⟨hpn, by omega, by omega⟩ (q p)
    · have b1 := a5 p ⟨hpn, by omega, by omega⟩
      have b2 : s.2.2.2 ≤ r := by
        by_cases hk : k < t
        · by_cases hlt : fD l F G T k < s.2.2.2
          · have c1 := i9 k hk a2 hlt
            have c2 := psum_mono hT (i := t) (j := T.length) i2
            omega
          · omega
        · by_cases hkp : k = p
          · subst hkp; omega
          · have := fill_mid hT i1 i4 i5 (j := T.length) (by omega) i9 k k (Nat.le_refl _) (by omega) (by omega) (by omega) a2
            omega
      rw [if_neg (by omega)]
      omega
  | succ m ih =>
    intro j s hj hi
    obtain ⟨hst, p, t, i1, i2, i3, i4, i5, i6, i7, i8, i9, i10⟩ := hi
    have hdr : T.drop j = T[j] :: T.drop (j + 1) := List.drop_eq_getElem_cons (by omega)
    have he : T[j]? = some T[j] := List.getElem?_eq_getElem (by omega)
    generalize T[j] = e at he hdr
    rw [hdr]
    have hu : fnum T j = e.2.2 := fnum_e he
    have hft : ftik T j = e.1 := by unfold ftik; rw [he]
    have hps : psum T (j + 1) = psum T j + fnum T j := rfl
    have hos : ovr l T (j + 1) = max (ovr l T j) (e.1 + etk l e) := by
      show max (ovr l T j) (match T[j]? with | some e => e.1 + etk l e | none => 0) = _
      rw [he]
    have hu0 := hT j
    -- behind the chance
    have S1 : (gsin G s e = -1 ∧ ∀ k, p < k → k < j + 1 → fD l F G T k = -1) ∨ ∃ c : Nat, p ≤ c ∧ c < j + 1 ∧ fD l F G T c ≠ -1 ∧ gsin G s e = psum T j - psum T c ∧ ∀ k, c < k → k < j + 1 → fD l F G T k = -1 := by
      unfold gsin
      rw [hst]
      by_cases hc : G ≤ e.1 - ovr l T j
      · rw [if_pos hc]
        refine Or.inr ⟨j, by omega, by omega, ?_, by omega, fun k h1 h2 => by omega⟩
        by_cases hj0 : j = 0
        · rw [hj0, fD_0]; decide
        · rcases fD_min (l := l) (F := F) (G := G) (T := T) hj0 (by rw [hft]; exact hc) with ⟨-, q⟩ | ⟨⟨i, ⟨a1, a2, a3⟩, a4⟩, -⟩
          · exact absurd ⟨by clear i10; omega, by clear i10; omega, by clear i10; omega⟩ (q p)
          · dsimp only at a4
            have := fD_ge (l := l) (F := F) (G := G) (T := T) i
            omega
      · rw [if_neg hc]
        rcases i10 with ⟨q1, q2⟩ | ⟨c, q1, q2, q3, q4, q5⟩
        · refine Or.inl ⟨q1, fun k h1 h2 => ?_⟩
          by_cases hkj : k = j
          · subst hkj
            exact fD_no (by omega) (by rw [hft]; exact hc)
          · exact q2 k h1 (by omega)
        · refine Or.inr ⟨c, q1, by omega, q3, q4, fun k h1 h2 => ?_⟩
          by_cases hkj : k = j
          · subst hkj
            exact fD_no (by omega) (by rw [hft]; exact hc)
          · exact q5 k h1 (by omega)
    have tle : ∀ k, p < k → fD l F G T k ≠ -1 → t ≤ k := fun k h1 h2 => by
      refine Decidable.byContradiction (fun q => h2 (i8 k h1 (by omega)))
    unfold gfold gstep
    by_cases hlt : s.1 < e.2.2
    · rw [if_pos hlt]
      by_cases hdead : gsin G s e = -1 ∨ F - gsin G s e < e.2.2
      · rw [if_pos hdead]
        show (-2 : Int) = _
        symm
        rcases S1 with ⟨q1, q2⟩ | ⟨c, q1, q2, q3, q4, q5⟩
        · refine fill_dead hT (j := j) (c := p) (by omega) (fun k h1 h2 => ?_) (by omega)
          exact Decidable.byContradiction (fun q => h2 (q2 k (by omega) (by omega)))
        · have mc := psum_mono hT (i := c) (j := j) (by omega)
          refine fill_dead hT (j := j) (c := c) (by omega) (fun k h1 h2 => ?_) (by omega)
          exact Decidable.byContradiction (fun q => h2 (q5 k (by omega) (by omega)))
      · rw [if_neg hdead]
        show gans (gfold l F G (T.drop (j + 1)) _) = _
        rcases S1 with ⟨q1, q2⟩ | ⟨c, q1, q2, q3, q4, q5⟩
        · exact absurd (Or.inl q1) hdead
        · have hcp : p < c := by
            refine Nat.lt_of_le_of_ne q1 (fun q => ?_)
            subst q
            omega
          have hDc := fill_mid hT i1 i4 i5 (j := j) (by omega) i9 c c (Nat.le_refl _) (tle c hcp q3) hcp (by omega) q3
          refine ih (j + 1) _ (by omega) ⟨?_, c, j + 1, by omega, by omega, by omega, hDc, ?_, ?_, ?_, q5, fun k h1 h2 h3 => ?_, Or.inl ⟨rfl, q5⟩⟩
          · show max s.2.2.1 (e.1 + etk l e) = _
            rw [hos, hst]
          · show 0 ≤ s.2.2.2 + 1
            omega
          · show F - gsin G s e - e.2.2 = _
            omega
          · show 0 ≤ F - gsin G s e - e.2.2
            omega
          · have h3 : fD l F G T k < s.2.2.2 + 1 := h3
            by_cases hkp : p < k
            · have := fill_mid hT i1 i4 i5 (j := j) (by omega) i9 k k (Nat.le_refl _) (tle k hkp h2) hkp (by omega) h2
              omega
            · have := psum_mono hT (i := k) (j := p) (by omega)
              omega
    · rw [if_neg hlt]
      show gans (gfold l F G (T.drop (j + 1)) _) = _
      refine ih (j + 1) _ (by omega) ⟨?_, p, t, i1, by omega, by omega, i4, i5, ?_, ?_, i8, i9, ?_⟩
      · show max s.2.2.1 (e.1 + etk l e) = _
        rw [hos, hst]
      · show s.1 - e.2.2 = _
        omega
      · show 0 ≤ s.1 - e.2.2
        omega
      · show ((if gsin G s e = -1 then -1 else gsin G s e + e.2.2) = -1 ∧ _) ∨ ∃ c : Nat, p ≤ c ∧ c < j + 1 ∧ fD l F G T c ≠ -1 ∧ (if gsin G s e = -1 then -1 else gsin G s e + e.2.2) = psum T (j + 1) - psum T c ∧ _
        rcases S1 with ⟨q1, q2⟩ | ⟨c, q1, q2, q3, q4, q5⟩
        · rw [if_pos q1]
          exact Or.inl ⟨rfl, q2⟩
        · have mc := psum_mono hT (i := c) (j := j) (by omega)
          rw [if_neg (by omega)]
          exact Or.inr ⟨c, q1, q2, q3, by omega, q5⟩
theorem fillings_eq {l : List MC} {F G m : Int} {es : List EV} (hes : EVsok l es) (hF : 0 ≤ F) : gans (grun l F G m es (F, -1, 0, 0)) = fans l F G (bfil es m) := by
  rw [grun_fold]
  by_cases hn : (bfil es m).length = 0
  · rw [List.eq_nil_of_length_eq_zero hn]
    rfl
  · have h := fill_same (G := G) (fun k e h => (bfil_ok hes k e h).1) hF hn (bfil es m).length 0 (F, -1, 0, 0) (by omega) ⟨rfl, 0, 0, Nat.le_refl _, Nat.le_refl _, Or.inr rfl, fD_0, Int.le_refl _, by show F = F - (0 - 0); omega, hF, fun k h1 h2 => by omega, fun k h1 h2 h3 => by omega, Or.inl ⟨rfl, fun k h1 h2 => by omega⟩⟩
    exact h
