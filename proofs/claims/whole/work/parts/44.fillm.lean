/-! fillings in the reference. -/
def bfil (es : List EV) (m : Int) : List EV := es.filter (fun e => decide (e.2.1 = m))
def TAt (I : II) (es T : List EV) : Prop := ∀ (k : Nat) (e : EV), T[k]? = some e → ∃ i : Nat, I 174 0 k = zI i ∧ es[i]? = some e
theorem TAt.fr {I I' : II} {P : Nat → Nat → Bool} {es T : List EV} (h : TAt I es T) (hf : FrI P I I') (hP : P 174 0 = false) : TAt I' es T := by
  intro k e he
  obtain ⟨i, h1, h2⟩ := h k e he
  exact ⟨i, by rw [hf _ _ hP]; exact h1, h2⟩
theorem bfil_s {es : List EV} {n : Nat} {e : EV} {m : Int} (h : es[n]? = some e) : bfil (es.take (n + 1)) m = if e.2.1 = m then bfil (es.take n) m ++ [e] else bfil (es.take n) m := by
  unfold bfil
  rw [take_snoc h, List.filter_append]
  by_cases hc : e.2.1 = m
  · rw [if_pos hc]; simp [hc]
  · rw [if_neg hc]; simp [hc]
theorem bfil_len {es : List EV} {m : Int} : (bfil es m).length ≤ es.length := List.length_filter_le _ _
def fnum (T : List EV) (i : Nat) : Int := match T[i]? with | some e => e.2.2 | none => 0
def ovr (l : List MC) (T : List EV) : Nat → Int
  | 0 => 0
  | j + 1 => max (ovr l T j) (match T[j]? with | some e => e.1 + etk l e | none => 0)
def finner (F : Int) (T : List EV) (f : Nat → Int) : Nat → Int → Int → Int
  | 0, _, c => c
  | i + 1, s, c => finner F T f i (s + fnum T i) (if s + fnum T i ≤ F ∧ f i ≠ -1 ∧ (c = -1 ∨ f i + 1 < c) then f i + 1 else c)
def frest (F : Int) (T : List EV) (f : Nat → Int) : Nat → Int → Int → Int
  | 0, _, c => c
  | i + 1, s, c => frest F T f i (s + fnum T i) (if s + fnum T i ≤ F ∧ f i ≠ -1 ∧ (c = -1 ∨ f i < c) then f i else c)
def ftik (T : List EV) (j : Nat) : Int := match T[j]? with | some e => e.1 | none => 0
def fval (l : List MC) (F G : Int) (T : List EV) (j : Nat) (f : Nat → Int) : Int := if j = 0 then 0 else if G ≤ ftik T j - ovr l T j then finner F T f j 0 (-1) else -1
def fdn (l : List MC) (F G : Int) (T : List EV) : Nat → Nat → Int
  | 0 => fun _ => -1
  | j + 1 => fun k => if k = j then fval l F G T j (fdn l F G T j) else fdn l F G T j k
def fans (l : List MC) (F G : Int) (T : List EV) : Int := if frest F T (fdn l F G T T.length) T.length 0 (if T.length = 0 then 0 else -1) = -1 then -2 else frest F T (fdn l F G T T.length) T.length 0 (if T.length = 0 then 0 else -1)
theorem finner_rng {F : Int} {T : List EV} {f : Nat → Int} {b : Int} (hf : ∀ k, -1 ≤ f k ∧ f k ≤ b) : ∀ (i : Nat) (s c : Int), -1 ≤ c → c ≤ b + 1 → -1 ≤ finner F T f i s c ∧ finner F T f i s c ≤ b + 1
  | 0, _, c, h1, h2 => ⟨h1, h2⟩
  | i + 1, s, c, h1, h2 => by
    have := hf i
    unfold finner
    exact finner_rng hf i _ _ (by split <;> omega) (by split <;> omega)
theorem frest_rng {F : Int} {T : List EV} {f : Nat → Int} {b : Int} (hb : 0 ≤ b) (hf : ∀ k, -1 ≤ f k ∧ f k ≤ b) : ∀ (i : Nat) (s c : Int), -1 ≤ c → c ≤ b → -1 ≤ frest F T f i s c ∧ frest F T f i s c ≤ b
  | 0, _, c, h1, h2 => ⟨h1, h2⟩
  | i + 1, s, c, h1, h2 => by
    have := hf i
    unfold frest
    exact frest_rng hb hf i _ _ (by split <;> omega) (by split <;> omega)
theorem fdn_rng {l : List MC} {F G : Int} {T : List EV} : ∀ (j k : Nat), -1 ≤ fdn l F G T j k ∧ fdn l F G T j k ≤ j
  | 0, k => by unfold fdn; omega
  | j + 1, k => by
    have ih := fdn_rng (l := l) (F := F) (G := G) (T := T) j
    unfold fdn
    split
    · unfold fval
      split
      · omega
      · split
        · have := finner_rng (F := F) (T := T) (f := fdn l F G T j) (b := j) ih j 0 (-1) (by omega) (by omega)
          omega
        · omega
    · have := ih k
      omega
theorem ovr_rng {l : List MC} {T : List EV} (h : ∀ (k : Nat) (e : EV), T[k]? = some e → EVok l e) : ∀ j : Nat, 0 ≤ ovr l T j ∧ ovr l T j ≤ 44000
  | 0 => by unfold ovr; omega
  | j + 1 => by
    have ih := ovr_rng h j
    unfold ovr
    cases he : T[j]? with
    | none => dsimp only; omega
    | some e =>
      have h1 := h j e he
      have h2 := etk_rng h1
      obtain ⟨h3, h4, -⟩ := h1
      dsimp only
      omega
theorem fnum_rng {l : List MC} {T : List EV} (h : ∀ (k : Nat) (e : EV), T[k]? = some e → EVok l e) (j : Nat) : 0 ≤ fnum T j ∧ fnum T j ≤ 9999 := by
  unfold fnum
  cases he : T[j]? with
  | none => dsimp only; omega
  | some e =>
    obtain ⟨-, -, -, -, h1, h2⟩ := h j e he
    dsimp only
    omega
theorem fnum_e {T : List EV} {k : Nat} {e : EV} (he : T[k]? = some e) : fnum T k = e.2.2 := by unfold fnum; rw [he]
set_option maxRecDepth 100000 in
theorem fillm_collect {Γ : AMG} {Q : QQ} {d kb : Nat} {x1 : Int32} {I : II} {Lg : LJ} {R : RR} {gc : Nat → Nat} {l : List MC} {es : List EV} (hp : MPAt I es) (hes : EVsok l es) (hl : l.length ≤ 12) (hx1 : x1 = zI kb) (hkb : kb < 12)
    (h : ∀ (x2 x3 : Int32) (I' : II), FrI (V0 [174]) I I' → x2 = zI (bfil es kb).length → TAt I' es (bfil es kb) → am_J Γ mX12_fillings Q (d + 2) 0 0 70 [some (vR 12 0), some (vI x1), some (vI x2), some (vI x3), none, none, none, none] [] I' Lg R (GM gc)) :
    ∀ (m n : Nat) (x2 x3 : Int32) (I1 : II), n + m = es.length → x3 = zI n → x2 = zI (bfil (es.take n) kb).length → FrI (V0 [174]) I I1 → TAt I1 es (bfil (es.take n) kb) →
      am_J Γ mX12_fillings Q (d + 2) 0 0 33 [some (vR 12 0), some (vI x1), some (vI x2), some (vI x3), none, none, none, none] [] I1 Lg R (GM gc) := by
  have hel := hes.1
  intro m
  induction m with
  | zero =>
    intro n x2 x3 I1 hn h3 h2 hf hT
    have hevt : (I1 72 0 0).toInt = es.length := by rw [hf _ _ rfl, hp.1, zI_toInt (by omega) (by omega)]
    rw [List.take_of_length_le (by omega)] at h2 hT
    refine am_go vX12_fillings 4 ?_
    refine And.intro (fun c => ?_) (fun c => ?_)
    · exact h x2 x3 I1 hf h2 hT
    · rw [h3, zI_toInt (by omega) (by omega), hevt] at c
      omega
  | succ m ih =>
    intro n x2 x3 I1 hn h3 h2 hf hT
    have hevt : (I1 72 0 0).toInt = es.length := by rw [hf _ _ rfl, hp.1, zI_toInt (by omega) (by omega)]
    have he : es[n]? = some es[n] := List.getElem?_eq_getElem (by omega)
    generalize es[n] = e at he
    have hs := bfil_s (m := kb) he
    obtain ⟨-, -, e3, e4, -⟩ := hes.2 n e he
    have hnt : x3.toInt = n := by rw [h3, zI_toInt (by omega) (by omega)]
    have hbl := bfil_len (es := es.take n) (m := kb)
    have htl : (es.take n).length = n := by rw [List.length_take]; omega
    have h2t : x2.toInt = (bfil (es.take n) kb).length := by rw [h2, zI_toInt (by omega) (by omega)]
    refine am_goN vX12_fillings 60 ?_
    refine And.intro (fun c => ?_) (fun c => ?_)
    · rw [hnt, hevt] at c
      omega
    refine And.intro ⟨by omega, by omega⟩ ?_
    have hmm : (I1 155 0 x3.toInt.toNat).toInt = e.2.1 := by rw [hnt, Int.toNat_natCast, hf _ _ rfl, (hp.2 n e he).2.1, zI_toInt (by omega) (by omega)]
    refine And.intro (fun c => ?_) (fun c => ?_)
    · rw [hmm, hx1, zI_toInt (by omega) (by omega)] at c
      rw [if_pos c] at hs
      refine And.intro ⟨by omega, by omega⟩ ?_
      refine fun y1 ey1 I2 e2 y2 ey2 y3 ey3 => ?_
      rw [h2t, Int.toNat_natCast] at e2
      refine ih (n + 1) _ _ I2 (by omega) (by rw [ey3, h3, zI_add]; congr 1) (by rw [ey2, h2, zI_add, hs, List.length_append]; rfl) (by rw [e2]; exact hf.up rfl) ?_
      rw [hs]
      intro k e' he'
      by_cases hk : k = (bfil (es.take n) kb).length
      · subst hk
        rw [List.getElem?_append_right (Nat.le_refl _), Nat.sub_self] at he'
        cases he'
        exact ⟨n, by rw [e2, up3_s, ey1, h3], he⟩
      · have hlt : k < (bfil (es.take n) kb).length := by
          have := (List.getElem?_eq_some_iff.mp he').1
          rw [List.length_append] at this
          simp at this
          omega
        rw [List.getElem?_append_left hlt] at he'
        obtain ⟨i, a1, a2⟩ := hT k e' he'
        exact ⟨i, by rw [e2, up3_j _ hk]; exact a1, a2⟩
    · rw [hmm, hx1, zI_toInt (by omega) (by omega)] at c
      rw [if_neg c] at hs
      refine fun y3 ey3 => ?_
      exact ih (n + 1) _ _ I1 (by omega) (by rw [ey3, h3, zI_add]; congr 1) (by rw [hs]; exact h2) hf (by rw [hs]; exact hT)
