/-! balls: how many are away at once. -/
def bcnt (l : List MC) (es : List EV) (r aw te : Int) : Nat → Int
  | 0 => 0
  | n + 1 => bcnt l es r aw te n + (match es[n]? with | some f => if letG l r f = true ∧ te < f.1 + aw then 1 else 0 | none => 0)
def bmost (l : List MC) (es : List EV) (r aw : Int) : Nat → Int
  | 0 => 0
  | n + 1 => max (bmost l es r aw n) (match es[n]? with | some e => if letG l r e = true then bcnt l es r aw e.1 (n + 1) else 0 | none => 0)
theorem bcnt_rng {l : List MC} {es : List EV} {r aw te : Int} : ∀ n : Nat, 0 ≤ bcnt l es r aw te n ∧ bcnt l es r aw te n ≤ n
  | 0 => by unfold bcnt; omega
  | n + 1 => by
    have := bcnt_rng (l := l) (es := es) (r := r) (aw := aw) (te := te) n
    unfold bcnt
    cases es[n]? with
    | none => dsimp only; omega
    | some f => dsimp only; split <;> omega
theorem bmost_rng {l : List MC} {es : List EV} {r aw : Int} : ∀ n : Nat, 0 ≤ bmost l es r aw n ∧ bmost l es r aw n ≤ n
  | 0 => by unfold bmost; omega
  | n + 1 => by
    have := bmost_rng (l := l) (es := es) (r := r) (aw := aw) n
    unfold bmost
    cases es[n]? with
    | none => dsimp only; omega
    | some f =>
      have := bcnt_rng (l := l) (es := es) (r := r) (aw := aw) (te := f.1) (n + 1)
      dsimp only
      split <;> omega
theorem bcnt_s {l : List MC} {es : List EV} {r aw te : Int} {n : Nat} {f : EV} (h : es[n]? = some f) : bcnt l es r aw te (n + 1) = bcnt l es r aw te n + if letG l r f = true ∧ te < f.1 + aw then 1 else 0 := by
  show bcnt l es r aw te n + (match es[n]? with | some f => if letG l r f = true ∧ te < f.1 + aw then 1 else 0 | none => 0) = _
  rw [h]
theorem bmost_s {l : List MC} {es : List EV} {r aw : Int} {n : Nat} {e : EV} (h : es[n]? = some e) : bmost l es r aw (n + 1) = max (bmost l es r aw n) (if letG l r e = true then bcnt l es r aw e.1 (n + 1) else 0) := by
  show max (bmost l es r aw n) (match es[n]? with | some e => if letG l r e = true then bcnt l es r aw e.1 (n + 1) else 0 | none => 0) = _
  rw [h]
set_option maxRecDepth 100000 in
theorem mballs_in {Γ : AMG} {Q : QQ} {d j : Nat} {x1 x2 x3 x4 : Int32} {r bk en : Int} {I : II} {Lg : LJ} {R : RR} {gc : Nat → Nat} {l : List MC} {es : List EV} {e : EV} (hl : MCsok l) (hm : MMAt I l) (hp : MPAt I es) (hes : EVsok l es) (hx1 : x1 = zI r) (hr0 : 0 ≤ r) (hr1 : r < 4) (hx2 : x2 = zI bk) (hb0 : 0 ≤ bk) (hb1 : bk ≤ 1000) (hen : I 56 0 0 = zI en) (he0 : 0 ≤ en) (he1 : en ≤ 2000) (hx4 : x4 = zI j) (he : es[j]? = some e)
    (h : ∀ x5 x6 : Int32, x5 = zI (bcnt l es r (en + bk) e.1 (j + 1)) → am_J Γ mX12_balls Q (d + 2) 0 0 126 [some (vR 12 0), some (vI x1), some (vI x2), some (vI x3), some (vI x4), some (vI x5), some (vI x6)] [] I Lg R (GM gc)) :
    ∀ (m n : Nat) (x5 x6 : Int32), n + m = j + 1 → x6 = zI n → x5 = zI (bcnt l es r (en + bk) e.1 n) →
      am_J Γ mX12_balls Q (d + 2) 0 0 76 [some (vR 12 0), some (vI x1), some (vI x2), some (vI x3), some (vI x4), some (vI x5), some (vI x6)] [] I Lg R (GM gc) := by
  have hjl := (List.getElem?_eq_some_iff.mp he).1
  have hel := hes.1
  have hjt : x4.toInt = j := by rw [hx4, zI_toInt (by omega) (by omega)]
  intro m
  induction m with
  | zero =>
    intro n x5 x6 hn h6 h5
    refine am_go vX12_balls 3 ?_
    refine And.intro (fun c => ?_) (fun c => ?_)
    · refine h x5 x6 ?_
      rw [h5, show n = j + 1 by omega]
    · rw [h6, zI_toInt (by omega) (by omega), hjt] at c
      omega
  | succ m ih =>
    intro n x5 x6 hn h6 h5
    have hb := bcnt_rng (l := l) (es := es) (r := r) (aw := en + bk) (te := e.1) n
    have hf : es[n]? = some es[n] := List.getElem?_eq_getElem (by omega)
    generalize es[n] = f at hf
    obtain ⟨f1, f2, -⟩ := hes.2 n f hf
    obtain ⟨e1, e2, -⟩ := hes.2 j e he
    have hnt : x6.toInt = n := by rw [h6, zI_toInt (by omega) (by omega)]
    have hnn : x6.toInt.toNat = n := by rw [hnt]; omega
    have hjn : x4.toInt.toNat = j := by rw [hjt]; omega
    have hs := bcnt_s (l := l) (r := r) (aw := en + bk) (te := e.1) hf
    refine am_go vX12_balls 60 ?_
    refine And.intro (fun c => ?_) (fun c => ?_)
    · rw [hnt, hjt] at c
      omega
    refine s_misLetGo hl hm hp hes h6 hx1 hr0 hr1 hf (fun hy => ?_) (fun hn' => ?_)
    · refine And.intro (fun c2 => ?_) (fun c2 => ?_)
      · rw [zI_toInt (by omega) (by omega)] at c2
        omega
      refine And.intro ⟨by omega, by omega⟩ ?_
      refine And.intro ⟨by omega, by omega⟩ ?_
      refine And.intro (fun c3 => ?_) (fun c3 => ?_)
      · rw [hnn, hjn, (hp.2 n f hf).1, (hp.2 j e he).1, hen, hx2, zI_add, zI_add, zI_toInt (by omega) (by omega), zI_toInt (by omega) (by omega)] at c3
        refine ih (n + 1) _ _ (by omega) (by rw [h6, zI_add]; congr 1) ?_
        rw [hs, if_neg (by rw [hy]; omega), Int.add_zero]
        exact h5
      · rw [hnn, hjn, (hp.2 n f hf).1, (hp.2 j e he).1, hen, hx2, zI_add, zI_add, zI_toInt (by omega) (by omega), zI_toInt (by omega) (by omega)] at c3
        refine ih (n + 1) _ _ (by omega) (by rw [h6, zI_add]; congr 1) ?_
        rw [hs, if_pos ⟨hy, by omega⟩, h5, zI_add]
    · refine And.intro (fun c2 => ?_) (fun c2 => ?_)
      · refine ih (n + 1) _ _ (by omega) (by rw [h6, zI_add]; congr 1) ?_
        rw [hs, if_neg (by rw [hn']; simp), Int.add_zero]
        exact h5
      · rw [zI_toInt (by omega) (by omega)] at c2
        omega
set_option maxRecDepth 100000 in
theorem mballs_out {Γ : AMG} {Q : QQ} {d : Nat} {x1 x2 : Int32} {r bk en : Int} {I : II} {Lg : LJ} {R : RR} {gc : Nat → Nat} {l : List MC} {es : List EV} (hl : MCsok l) (hm : MMAt I l) (hp : MPAt I es) (hes : EVsok l es) (hx1 : x1 = zI r) (hr0 : 0 ≤ r) (hr1 : r < 4) (hx2 : x2 = zI bk) (hb0 : 0 ≤ bk) (hb1 : bk ≤ 1000) (hen : I 56 0 0 = zI en) (he0 : 0 ≤ en) (he1 : en ≤ 2000)
    (h : Q (some (vI (zI (bmost l es r (en + bk) es.length)))) I Lg R (GM gc)) :
    ∀ (m n : Nat) (x3 x4 : Int32) (l5 l6 : Option AV), n + m = es.length → x4 = zI n → x3 = zI (bmost l es r (en + bk) n) →
      am_J Γ mX12_balls Q (d + 2) 0 0 48 [some (vR 12 0), some (vI x1), some (vI x2), some (vI x3), some (vI x4), l5, l6] [] I Lg R (GM gc) := by
  have hel := hes.1
  have hevt : (I 72 0 0).toInt = es.length := by rw [hp.1, zI_toInt (by omega) (by omega)]
  intro m
  induction m with
  | zero =>
    intro n x3 x4 l5 l6 hn h4 h3
    refine am_go vX12_balls 60 ?_
    refine And.intro (fun c => ?_) (fun c => ?_)
    · rw [h3, show n = es.length by omega]
      exact h
    · rw [h4, zI_toInt (by omega) (by omega), hevt] at c
      omega
  | succ m ih =>
    intro n x3 x4 l5 l6 hn h4 h3
    have hf : es[n]? = some es[n] := List.getElem?_eq_getElem (by omega)
    generalize es[n] = e at hf
    have hs := bmost_s (l := l) (r := r) (aw := en + bk) hf
    have hbm := bmost_rng (l := l) (es := es) (r := r) (aw := en + bk) n
    refine am_J.er [true, true, true, true, true, false, false] ?_
    refine am_go vX12_balls 60 ?_
    refine And.intro (fun c => ?_) (fun c => ?_)
    · rw [h4, zI_toInt (by omega) (by omega), hevt] at c
      omega
    refine s_misLetGo hl hm hp hes h4 hx1 hr0 hr1 hf (fun hy => ?_) (fun hn' => ?_)
    · refine And.intro (fun c2 => ?_) (fun c2 => ?_)
      · have hbc := bcnt_rng (l := l) (es := es) (r := r) (aw := en + bk) (te := e.1) (n + 1)
        rw [if_pos hy] at hs
        refine mballs_in hl hm hp hes hx1 hr0 hr1 hx2 hb0 hb1 hen he0 he1 h4 hf (fun x5 x6 h5 => ?_) (n + 1) 0 _ _ (by omega) rfl rfl
        refine am_go vX12_balls 60 ?_
        refine And.intro (fun c => ?_) (fun c => ?_)
        · rw [h5, h3, zI_toInt (by omega) (by omega), zI_toInt (by omega) (by omega)] at c
          refine ih (n + 1) _ _ _ _ (by omega) (by rw [h4, zI_add]; congr 1) ?_
          rw [hs, Int.max_eq_left c]
          exact h3
        · rw [h5, h3, zI_toInt (by omega) (by omega), zI_toInt (by omega) (by omega)] at c
          refine ih (n + 1) _ _ _ _ (by omega) (by rw [h4, zI_add]; congr 1) ?_
          rw [hs, Int.max_eq_right (by omega)]
          exact h5
      · rw [zI_toInt (by omega) (by omega)] at c2
        omega
    · refine And.intro (fun c2 => ?_) (fun c2 => ?_)
      · rw [zI_toInt (by omega) (by omega)] at c2
        omega
      · rw [hn'] at hs
        rw [if_neg (by decide)] at hs
        refine ih (n + 1) _ _ _ _ (by omega) (by rw [h4, zI_add]; congr 1) ?_
        rw [hs, Int.max_eq_left hbm.1]
        exact h3
set_option maxRecDepth 100000 in
theorem cballs_in {Γ : AMG} {Q : QQ} {d j p : Nat} {x2 x3 x4 x5 : Int32} {r aw : Int} {I : II} {Lg : LJ} {R : RR} {gc : Nat → Nat} {l : List MC} {S : PS} {e : EV} (hl : MCsok l) (hm : CMAt I l) (hp : PlanAt I p S) (hes : EVsok l S.1) (hx2 : x2 = zI r) (hr0 : 0 ≤ r) (hr1 : r < 4) (hx3 : x3 = zI aw) (ha0 : 0 ≤ aw) (ha1 : aw ≤ 3000) (hx5 : x5 = zI j) (he : S.1[j]? = some e) (hle : letG l r e = true)
    (h : ∀ x6 x7 : Int32, x6 = zI (bcnt l S.1 r aw e.1 (j + 1)) → am_J Γ mX5_ballsNeeded Q (d + 3) 0 0 76 [some (vR 5 0), some (vR 8 p), some (vI x2), some (vI x3), some (vI x4), some (vI x5), some (vI x6), some (vI x7)] [] I Lg R (GM gc)) :
    ∀ (m n : Nat) (x6 x7 : Int32), n + m = j + 1 → x7 = zI n → x6 = zI (bcnt l S.1 r aw e.1 n) →
      am_J Γ mX5_ballsNeeded Q (d + 3) 0 0 21 [some (vR 5 0), some (vR 8 p), some (vI x2), some (vI x3), some (vI x4), some (vI x5), some (vI x6), some (vI x7)] [] I Lg R (GM gc) := by
  have hjl := (List.getElem?_eq_some_iff.mp he).1
  have hel := hes.1
  have hjt : x5.toInt = j := by rw [hx5, zI_toInt (by omega) (by omega)]
  intro m
  induction m with
  | zero =>
    intro n x6 x7 hn h7 h6
    refine am_go vX5_ballsNeeded 3 ?_
    refine And.intro (fun c => ?_) (fun c => ?_)
    · refine h x6 x7 ?_
      rw [h6, show n = j + 1 by omega]
    · rw [h7, zI_toInt (by omega) (by omega), hjt] at c
      omega
  | succ m ih =>
    intro n x6 x7 hn h7 h6
    have hb := bcnt_rng (l := l) (es := S.1) (r := r) (aw := aw) (te := e.1) n
    have hf : S.1[n]? = some S.1[n] := List.getElem?_eq_getElem (by omega)
    generalize S.1[n] = f at hf
    obtain ⟨f1, f2, -⟩ := hes.2 n f hf
    obtain ⟨e1, e2, -⟩ := hes.2 j e he
    have hnt : x7.toInt = n := by rw [h7, zI_toInt (by omega) (by omega)]
    have hs := bcnt_s (l := l) (r := r) (aw := aw) (te := e.1) hf
    refine am_go vX5_ballsNeeded 60 ?_
    refine And.intro (fun c => ?_) (fun c => ?_)
    · rw [hnt, hjt] at c
      omega
    refine s_letsGo hl hm hp hes hx5 hx2 hr0 hr1 he (fun _ => ?_) (fun hn' => ?_)
    · refine And.intro (fun c2 => ?_) (fun c2 => ?_)
      · rw [zI_toInt (by omega) (by omega)] at c2
        omega
      refine s_letsGo hl hm hp hes h7 hx2 hr0 hr1 hf (fun hy => ?_) (fun hn' => ?_)
      · refine And.intro (fun c3 => ?_) (fun c3 => ?_)
        · rw [zI_toInt (by omega) (by omega)] at c3
          omega
        refine s_tickOfE hp h7 hf ?_
        refine s_tickOfE hp hx5 he ?_
        refine And.intro (fun c3 => ?_) (fun c3 => ?_)
        · rw [hx3, zI_add, zI_toInt (by omega) (by omega), zI_toInt (by omega) (by omega)] at c3
          refine ih (n + 1) _ _ (by omega) (by rw [h7, zI_add]; congr 1) ?_
          rw [hs, if_neg (by rw [hy]; omega), Int.add_zero]
          exact h6
        · rw [hx3, zI_add, zI_toInt (by omega) (by omega), zI_toInt (by omega) (by omega)] at c3
          refine ih (n + 1) _ _ (by omega) (by rw [h7, zI_add]; congr 1) ?_
          rw [hs, if_pos ⟨hy, by omega⟩, h6, zI_add]
      · refine And.intro (fun c2 => ?_) (fun c2 => ?_)
        · refine ih (n + 1) _ _ (by omega) (by rw [h7, zI_add]; congr 1) ?_
          rw [hs, if_neg (by rw [hn']; simp), Int.add_zero]
          exact h6
        · rw [zI_toInt (by omega) (by omega)] at c2
          omega
    · rw [hle] at hn'
      cases hn'
set_option maxRecDepth 100000 in
theorem cballs_out {Γ : AMG} {Q : QQ} {d p : Nat} {x2 x3 : Int32} {r aw : Int} {I : II} {Lg : LJ} {R : RR} {gc : Nat → Nat} {l : List MC} {S : PS} (hl : MCsok l) (hm : CMAt I l) (hp : PlanAt I p S) (hes : EVsok l S.1) (hx2 : x2 = zI r) (hr0 : 0 ≤ r) (hr1 : r < 4) (hx3 : x3 = zI aw) (ha0 : 0 ≤ aw) (ha1 : aw ≤ 3000)
    (h : Q (some (vI (zI (bmost l S.1 r aw S.1.length)))) I Lg R (GM gc)) :
    ∀ (m n : Nat) (x4 x5 : Int32) (l6 l7 : Option AV), n + m = S.1.length → x5 = zI n → x4 = zI (bmost l S.1 r aw n) →
      am_J Γ mX5_ballsNeeded Q (d + 3) 0 0 6 [some (vR 5 0), some (vR 8 p), some (vI x2), some (vI x3), some (vI x4), some (vI x5), l6, l7] [] I Lg R (GM gc) := by
  have hel := hes.1
  have hst : (I 33 p 0).toInt = S.1.length := by rw [hp.1, zI_toInt (by omega) (by omega)]
  intro m
  induction m with
  | zero =>
    intro n x4 x5 l6 l7 hn h5 h4
    refine am_go vX5_ballsNeeded 60 ?_
    refine And.intro (fun c => ?_) (fun c => ?_)
    · rw [h4, show n = S.1.length by omega]
      exact h
    · rw [h5, zI_toInt (by omega) (by omega), hst] at c
      omega
  | succ m ih =>
    intro n x4 x5 l6 l7 hn h5 h4
    have hf : S.1[n]? = some S.1[n] := List.getElem?_eq_getElem (by omega)
    generalize S.1[n] = e at hf
    have hs := bmost_s (l := l) (r := r) (aw := aw) hf
    have hbm := bmost_rng (l := l) (es := S.1) (r := r) (aw := aw) n
    refine am_J.er [true, true, true, true, true, true, false, false] ?_
    refine am_go vX5_ballsNeeded 60 ?_
    refine And.intro (fun c => ?_) (fun c => ?_)
    · rw [h5, zI_toInt (by omega) (by omega), hst] at c
      omega
    have fin : ∀ (x6 x7 : Int32) (b : Int), x6 = zI b → 0 ≤ b → b ≤ 100 → bmost l S.1 r aw (n + 1) = max (bmost l S.1 r aw n) b → am_J Γ mX5_ballsNeeded Q (d + 3) 0 0 76 [some (vR 5 0), some (vR 8 p), some (vI x2), some (vI x3), some (vI x4), some (vI x5), some (vI x6), some (vI x7)] [] I Lg R (GM gc) := by
      intro x6 x7 b h6 hb0 hb1 hbe
      refine am_go vX5_ballsNeeded 60 ?_
      refine ih (n + 1) _ _ _ _ (by omega) (by rw [h5, zI_add]; congr 1) ?_
      rw [h4, h6, am_max_z (by omega) (by omega) (by omega) (by omega), hbe]
    cases hle : letG l r e with
    | true =>
      have hbc := bcnt_rng (l := l) (es := S.1) (r := r) (aw := aw) (te := e.1) (n + 1)
      rw [if_pos hle] at hs
      exact cballs_in hl hm hp hes hx2 hr0 hr1 hx3 ha0 ha1 h5 hf hle (fun x6 x7 h6 => fin x6 x7 _ h6 hbc.1 (by omega) hs) (n + 1) 0 _ _ (by omega) rfl rfl
    | false =>
      rw [hle, if_neg (by decide)] at hs
      refine am_go vX5_ballsNeeded 60 ?_
      refine And.intro (fun c => ?_) (fun c => ?_)
      · rw [h5, zI_toInt (by omega) (by omega), zI_toInt (by omega) (by omega)] at c
        omega
      refine s_letsGo hl hm hp hes h5 hx2 hr0 hr1 hf (fun hy => ?_) (fun hn' => ?_)
      · rw [hle] at hy
        cases hy
      · refine And.intro (fun c2 => ?_) (fun c2 => ?_)
        · refine ih (n + 1) _ _ _ _ (by omega) (by rw [h5, zI_add]; congr 1) ?_
          rw [h4, am_max_z (by omega) (by omega) (by omega) (by omega), hs]
        · rw [zI_toInt (by omega) (by omega)] at c2
          omega
set_option maxRecDepth 100000 in
theorem s_ballsNeeded {Γ : AMG} {Q : QQ} {d p : Nat} {x2 x3 : Int32} {r aw : Int} {I : II} {Lg : LJ} {R : RR} {gc : Nat → Nat} {l : List MC} {S : PS} (hl : MCsok l) (hm : CMAt I l) (hp : PlanAt I p S) (hes : EVsok l S.1) (hx2 : x2 = zI r) (hr0 : 0 ≤ r) (hr1 : r < 4) (hx3 : x3 = zI aw) (ha0 : 0 ≤ aw) (ha1 : aw ≤ 3000)
    (h : Q (some (vI (zI (bmost l S.1 r aw S.1.length)))) I Lg R (GM gc)) : am_Sp Γ (d + 3) 0 0 mX5_ballsNeeded [vR 5 0, vR 8 p, vI x2, vI x3] I Lg R (GM gc) Q := by
  refine am_run vX5_ballsNeeded 60 _ rfl rfl rfl rfl ?_
  exact cballs_out hl hm hp hes hx2 hr0 hr1 hx3 ha0 ha1 h S.1.length 0 _ _ _ _ (by omega) rfl rfl
