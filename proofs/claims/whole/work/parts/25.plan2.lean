/-! Plans: addAll, repeat, lastTick, becomes. -/
def shE (l : Int) (e : EV) : EV := (e.1 + l, e.2.1, e.2.2)
def paddAll (S T : PS) (l : Int) : PS := (T.1.map (shE l)).foldl padd (S.1, S.2 || T.2)
theorem pfold_len {l : List EV} : ∀ {S : PS}, S.1.length ≤ 24 → (l.foldl padd S).1.length ≤ 24 := by
  induction l with
  | nil => exact fun h => h
  | cons e l ih => exact fun h => ih (padd_len h)
theorem take_snoc {α : Type} {l : List α} {k : Nat} {e : α} (h : l[k]? = some e) : l.take (k + 1) = l.take k ++ [e] := by
  rw [List.take_add_one, h]
  rfl
theorem addAll_loop {Γ : AMG} {Q : QQ} {d p q : Nat} {x2 : Int32} {l : Int} {I : II} {Lg : LJ} {R : RR} {gc : Nat → Nat} {S T : PS} (hpq : q ≠ p) (hx2 : x2 = zI l)
    (h : ∀ I' : II, FrI (V1 pvars p) I I' → PlanAt I' p ((T.1.map (shE l)).foldl padd S) → Q none I' Lg R (GM gc)) : ∀ (m k : Nat) (x3 : Int32) (I1 : II), T.1.length = k + m → x3 = zI k → PlanAt I1 p (((T.1.map (shE l)).take k).foldl padd S) → PlanAt I1 q T → FrI (V1 pvars p) I I1 →
      am_J Γ mX8_addAll Q (d + 2) 0 0 25 [some (vR 8 p), some (vR 8 q), some (vI x2), some (vI x3)] [] I1 Lg R (GM gc) := by
  intro m
  induction m with
  | zero =>
    intro k x3 I1 hm hx3 hp hq hf
    refine am_go vX8_addAll 40 ?_
    have hT := hq.2.1
    refine And.intro (fun c => ?_) (fun c => ?_)
    · refine h I1 hf ?_
      rw [List.take_of_length_le (by simp; omega)] at hp
      exact hp
    · rw [hq.1, hx3, zI_toInt (by omega) (by omega), zI_toInt (by omega) (by omega)] at c
      omega
  | succ m ih =>
    intro k x3 I1 hm hx3 hp hq hf
    have hT := hq.2.1
    have hk : k < T.1.length := by omega
    have he : T.1[k]? = some T.1[k] := List.getElem?_eq_getElem hk
    refine am_go vX8_addAll 40 ?_
    refine And.intro (fun c => ?_) (fun c => ?_)
    · rw [hq.1, hx3, zI_toInt (by omega) (by omega), zI_toInt (by omega) (by omega)] at c
      omega
    · refine s_tickOfE hq hx3 he ?_
      refine s_machineOfE hq hx3 he ?_
      refine s_numberOfE hq hx3 he ?_
      refine s_padd hp (by rw [hx2, zI_add]) rfl rfl (fun I2 f2 p2 => ?_)
      refine ih (k + 1) _ I2 (by omega) (by rw [hx3, zI_add]; congr 1) ?_ (hq.ne f2 hpq) (hf.tr f2)
      rw [take_snoc (e := shE l T.1[k]) (by rw [List.getElem?_map, he]; rfl), List.foldl_append]
      exact p2
set_option maxRecDepth 100000 in
theorem s_addAll {Γ : AMG} {Q : QQ} {d p q : Nat} {x2 : Int32} {l : Int} {I : II} {Lg : LJ} {R : RR} {gc : Nat → Nat} {S T : PS} (hp : PlanAt I p S) (hq : PlanAt I q T) (hpq : q ≠ p) (hx2 : x2 = zI l)
    (h : ∀ I' : II, FrI (V1 pvars p) I I' → PlanAt I' p (paddAll S T l) → Q none I' Lg R (GM gc)) : am_Sp Γ (d + 2) 0 0 mX8_addAll [vR 8 p, vR 8 q, vI x2] I Lg R (GM gc) Q := by
  refine am_run vX8_addAll 40 _ rfl rfl rfl rfl ?_
  obtain ⟨h1, h2, h3, h4⟩ := id hp
  obtain ⟨g1, g2, g3, g4⟩ := id hq
  have go : ∀ b : Bool, (S.2 || T.2) = b → ∀ x, x = zI (cond b 1 0) → am_J Γ mX8_addAll Q (d + 2) 0 0 25 [some (vR 8 p), some (vR 8 q), some (vI x2), some (vI (zI 0))] [] (up3 I 34 p 0 x) Lg R (GM gc) := by
    intro b hb x hx
    have hf : FrI (V1 pvars p) I (up3 I 34 p 0 x) := FrI.rf.up (V1_in rfl)
    refine addAll_loop (S := (S.1, S.2 || T.2)) (T := T) hpq hx2 (fun I' f' p' => h I' f' p') T.1.length 0 _ _ (by omega) rfl ?_ (hq.ne hf hpq) hf
    refine ⟨by rw [up3_v _ (by decide)]; exact h1, h2, by rw [up3_s, hx]; show _ = zI (cond (S.2 || T.2) 1 0); rw [hb], fun k e he => ?_⟩
    rw [up3_v _ (by decide), up3_v _ (by decide), up3_v _ (by decide)]
    exact h4 k e he
  refine And.intro (fun c => ?_) (fun c => ?_)
  · refine And.intro (Or.inr rfl) ?_
    refine go true ?_ _ rfl
    cases hS : S.2
    · rw [h3, hS] at c
      exact absurd (zI_toInt (a := 0) (by omega) (by omega)) c
    · rfl
  · have hS : S.2 = false := by
      cases hS : S.2
      · rfl
      · rw [h3, hS] at c
        exact absurd c (by show (zI 1).toInt ≠ 0; rw [zI_toInt (by omega) (by omega)]; omega)
    refine And.intro (fun c2 => ?_) (fun c2 => ?_)
    · refine And.intro (Or.inl rfl) ?_
      refine go false ?_ _ rfl
      have hT : T.2 = false := by
        cases hT : T.2
        · rfl
        · rw [g3, hT] at c2
          exact absurd c2 (by show (zI 1).toInt ≠ 0; rw [zI_toInt (by omega) (by omega)]; omega)
      rw [hS, hT]
      rfl
    · refine And.intro (Or.inr rfl) ?_
      refine go true ?_ _ rfl
      cases hT : T.2
      · rw [g3, hT] at c2
        exact absurd (zI_toInt (a := 0) (by omega) (by omega)) c2
      · rw [hS]; rfl
/-- the events from 'from' on are done again i times later -/
def prepE (es : List EV) (i every : Int) : List EV := es.map (shE (i * every))
def prepN (S : PS) (fr : Nat) (ev : Int) (n : Nat) : PS := (List.range n).foldl (fun (S2 : PS) (i : Nat) => (prepE (S.1.drop fr) ((i : Int) + 1) ev).foldl padd S2) S
def prep (S : PS) (fr : Nat) (times : Nat) (ev : Int) : PS := prepN S fr ev (times - 1)
theorem padd_pre {S : PS} {e : EV} {k : Nat} {x : EV} (h : S.1[k]? = some x) : (padd S e).1[k]? = some x := by
  unfold padd
  split
  · show (S.1 ++ [e])[k]? = some x
    rw [List.getElem?_append_left (List.getElem?_eq_some_iff.mp h).1]
    exact h
  · exact h
theorem pfold_pre {l : List EV} : ∀ {S : PS} {k : Nat} {x : EV}, S.1[k]? = some x → (l.foldl padd S).1[k]? = some x := by
  induction l with
  | nil => exact fun h => h
  | cons e l ih => exact fun h => ih (padd_pre h)
theorem prep_inner {Γ : AMG} {Q : QQ} {d p : Nat} {x1 x2 x3 x4 x5 : Int32} {i ev : Int} {I : II} {Lg : LJ} {R : RR} {gc : Nat → Nat} {S S2 : PS} {fr : Nat} (hx3 : x3 = zI ev) (hx4 : x4 = zI S.1.length) (hx5 : x5 = zI i) (hS : S.1.length ≤ 24)
    (hpre : ∀ (k : Nat) (x : EV), S.1[k]? = some x → S2.1[k]? = some x) (h : ∀ (I' : II) (x6 : Int32), FrI (V1 pvars p) I I' → PlanAt I' p ((prepE (S.1.drop fr) i ev).foldl padd S2) → am_J Γ mX8_repeat Q (d + 2) 0 0 9 [some (vR 8 p), some (vI x1), some (vI x2), some (vI x3), some (vI x4), some (vI (x5 + zI 1)), some (vI x6)] [] I' Lg R (GM gc)) :
    ∀ (m k : Nat) (x6 : Int32) (I1 : II), S.1.length = k + m → fr ≤ k → x6 = zI k → PlanAt I1 p ((prepE ((S.1.take k).drop fr) i ev).foldl padd S2) → FrI (V1 pvars p) I I1 →
      am_J Γ mX8_repeat Q (d + 2) 0 0 18 [some (vR 8 p), some (vI x1), some (vI x2), some (vI x3), some (vI x4), some (vI x5), some (vI x6)] [] I1 Lg R (GM gc) := by
  intro m
  induction m with
  | zero =>
    intro k x6 I1 hm hfr hx6 hp hf
    refine am_go vX8_repeat 40 ?_
    refine And.intro (fun c => ?_) (fun c => ?_)
    · refine h I1 _ hf ?_
      rw [List.take_of_length_le (by omega)] at hp
      exact hp
    · rw [hx6, hx4, zI_toInt (by omega) (by omega), zI_toInt (by omega) (by omega)] at c
      omega
  | succ m ih =>
    intro k x6 I1 hm hfr hx6 hp hf
    have hk : k < S.1.length := by omega
    have he : S.1[k]? = some S.1[k] := List.getElem?_eq_getElem hk
    have he2 := pfold_pre (l := prepE ((S.1.take k).drop fr) i ev) (hpre k _ he)
    refine am_go vX8_repeat 40 ?_
    refine And.intro (fun c => ?_) (fun c => ?_)
    · rw [hx6, hx4, zI_toInt (by omega) (by omega), zI_toInt (by omega) (by omega)] at c
      omega
    · refine s_tickOfE hp hx6 he2 ?_
      refine s_machineOfE hp hx6 he2 ?_
      refine s_numberOfE hp hx6 he2 ?_
      refine s_padd hp (by rw [hx5, hx3, zI_mul, zI_add]) rfl rfl (fun I2 f2 p2 => ?_)
      refine ih (k + 1) _ I2 (by omega) (by omega) (by rw [hx6, zI_add]; congr 1) ?_ (hf.tr f2)
      have e1 : ((S.1.take (k + 1)).drop fr) = (S.1.take k).drop fr ++ [S.1[k]] := by
        rw [take_snoc he, List.drop_append_of_le_length (by simp; omega)]
      rw [e1]
      unfold prepE at p2 ⊢
      rw [List.map_append, List.foldl_append]
      exact p2
theorem prep_len {S : PS} {fr n : Nat} {ev : Int} (h : S.1.length ≤ 24) : (prepN S fr ev n).1.length ≤ 24 := by
  induction n with
  | zero => exact h
  | succ n ih =>
    unfold prepN at ih ⊢
    rw [List.range_succ, List.foldl_append]
    exact pfold_len ih
theorem prep_pre {S : PS} {fr n : Nat} {ev : Int} {k : Nat} {x : EV} (h : S.1[k]? = some x) : (prepN S fr ev n).1[k]? = some x := by
  induction n with
  | zero => exact h
  | succ n ih =>
    unfold prepN at ih ⊢
    rw [List.range_succ, List.foldl_append]
    exact pfold_pre ih
theorem prep_loop {Γ : AMG} {Q : QQ} {d p : Nat} {x1 x2 x3 x4 : Int32} {ev : Int} {I : II} {Lg : LJ} {R : RR} {gc : Nat → Nat} {S : PS} {fr times : Nat} (hx1 : x1 = zI fr) (hfr : fr ≤ S.1.length) (hx2 : x2 = zI times) (ht : times ≤ 1000000) (hx3 : x3 = zI ev) (hx4 : x4 = zI S.1.length) (hS : S.1.length ≤ 24)
    (h : ∀ I' : II, FrI (V1 pvars p) I I' → PlanAt I' p (prep S fr times ev) → Q none I' Lg R (GM gc)) :
    ∀ (m n : Nat) (x5 : Int32) (l6 : Option AV) (I1 : II), times - 1 = n + m → x5 = zI (n + 1) → PlanAt I1 p (prepN S fr ev n) → FrI (V1 pvars p) I I1 →
      am_J Γ mX8_repeat Q (d + 2) 0 0 9 [some (vR 8 p), some (vI x1), some (vI x2), some (vI x3), some (vI x4), some (vI x5), none] [] I1 Lg R (GM gc) := by
  intro m
  induction m with
  | zero =>
    intro n x5 l6 I1 hm hx5 hp hf
    refine am_go vX8_repeat 40 ?_
    refine And.intro (fun c => ?_) (fun c => ?_)
    · refine h I1 hf ?_
      unfold prep
      rw [hm]
      exact hp
    · rw [hx5, hx2, zI_toInt (by omega) (by omega), zI_toInt (by omega) (by omega)] at c
      omega
  | succ m ih =>
    intro n x5 l6 I1 hm hx5 hp hf
    refine am_go vX8_repeat 40 ?_
    refine And.intro (fun c => ?_) (fun c => ?_)
    · rw [hx5, hx2, zI_toInt (by omega) (by omega), zI_toInt (by omega) (by omega)] at c
      omega
    · refine prep_inner (S := S) (S2 := prepN S fr ev n) (I := I1) hx3 hx4 hx5 hS (fun k x hk => prep_pre hk) (fun I2 x6 f2 p2 => ?_) (S.1.length - fr) fr x1 I1 (by omega) (Nat.le_refl _) hx1 ?_ FrI.rf
      · refine am_J.drop (L' := [some (vR 8 p), some (vI x1), some (vI x2), some (vI x3), some (vI x4), some (vI (x5 + zI 1)), none]) rfl (fun i v hi => ?_) (ih (n + 1) _ none I2 (by omega) (by rw [hx5, zI_add]; congr 1) ?_ (hf.tr f2))
        · match i, hi with
          | 0, hi => exact hi
          | 1, hi => exact hi
          | 2, hi => exact hi
          | 3, hi => exact hi
          | 4, hi => exact hi
          | 5, hi => exact hi
          | 6, hi => cases hi
          | _ + 7, hi => cases hi
        · unfold prepN at p2 ⊢
          rw [List.range_succ, List.foldl_append]
          exact p2
      · rw [List.drop_of_length_le (by simp; omega)]
        exact hp
set_option maxRecDepth 100000 in
theorem s_prep {Γ : AMG} {Q : QQ} {d p : Nat} {x1 x2 x3 : Int32} {ev : Int} {I : II} {Lg : LJ} {R : RR} {gc : Nat → Nat} {S : PS} {fr times : Nat} (hp : PlanAt I p S) (hx1 : x1 = zI fr) (hfr : fr ≤ S.1.length) (hx2 : x2 = zI times) (ht : times ≤ 1000000) (hx3 : x3 = zI ev)
    (h : ∀ I' : II, FrI (V1 pvars p) I I' → PlanAt I' p (prep S fr times ev) → Q none I' Lg R (GM gc)) : am_Sp Γ (d + 2) 0 0 mX8_repeat [vR 8 p, vI x1, vI x2, vI x3] I Lg R (GM gc) Q := by
  refine am_run vX8_repeat 40 _ rfl rfl rfl rfl ?_
  exact prep_loop hx1 hfr hx2 ht hx3 hp.1 hp.2.1 h (times - 1) 0 _ none I (by omega) rfl hp FrI.rf
/-- the last tick -/
def ltick (l : List EV) : Int := l.foldl (fun a e => max a e.1) 0
theorem ltick_rng {l : List EV} (h : ∀ e ∈ l, -1000000000 ≤ e.1 ∧ e.1 ≤ 1000000000) : 0 ≤ ltick l ∧ ltick l ≤ 1000000000 := by
  unfold ltick
  suffices hh : ∀ a : Int, 0 ≤ a → a ≤ 1000000000 → 0 ≤ l.foldl (fun a e => max a e.1) a ∧ l.foldl (fun a e => max a e.1) a ≤ 1000000000 from hh 0 (by omega) (by omega)
  induction l with
  | nil => exact fun a h1 h2 => ⟨h1, h2⟩
  | cons e l ih =>
    intro a h1 h2
    have he := h e List.mem_cons_self
    exact ih (fun x hx => h x (List.mem_cons_of_mem _ hx)) (max a e.1) (by omega) (by omega)
theorem lastTick_loop {Γ : AMG} {Q : QQ} {d p : Nat} {I : II} {Lg : LJ} {R : RR} {gc : Nat → Nat} {S : PS} (hp : PlanAt I p S) (hr : ∀ e ∈ S.1, -1000000000 ≤ e.1 ∧ e.1 ≤ 1000000000) (h : Q (some (vI (zI (ltick S.1)))) I Lg R (GM gc)) :
    ∀ (m k : Nat) (x1 x2 : Int32), S.1.length = k + m → x2 = zI k → x1 = zI (ltick (S.1.take k)) →
      am_J Γ mX8_lastTick Q (d + 2) 0 0 4 [some (vR 8 p), some (vI x1), some (vI x2)] [] I Lg R (GM gc) := by
  intro m
  have hT := hp.2.1
  induction m with
  | zero =>
    intro k x1 x2 hm hx2 hx1
    refine am_go vX8_lastTick 40 ?_
    refine And.intro (fun c => ?_) (fun c => ?_)
    · rw [List.take_of_length_le (by omega)] at hx1
      rw [hx1]
      exact h
    · rw [hp.1, hx2, zI_toInt (by omega) (by omega), zI_toInt (by omega) (by omega)] at c
      omega
  | succ m ih =>
    intro k x1 x2 hm hx2 hx1
    have hk : k < S.1.length := by omega
    have he : S.1[k]? = some S.1[k] := List.getElem?_eq_getElem hk
    refine am_go vX8_lastTick 40 ?_
    refine And.intro (fun c => ?_) (fun c => ?_)
    · rw [hp.1, hx2, zI_toInt (by omega) (by omega), zI_toInt (by omega) (by omega)] at c
      omega
    · refine s_tickOfE hp hx2 he ?_
      refine ih (k + 1) _ _ (by omega) (by rw [hx2, zI_add]; congr 1) ?_
      have h1 := ltick_rng (l := S.1.take k) (fun e he => hr e (List.mem_of_mem_take he))
      have h2 := hr _ (List.getElem_mem hk)
      rw [hx1, am_max_z (by omega) (by omega) (by omega) (by omega), take_snoc he]
      congr 1
      unfold ltick
      rw [List.foldl_append]
      rfl
set_option maxRecDepth 100000 in
theorem s_lastTick {Γ : AMG} {Q : QQ} {d p : Nat} {I : II} {Lg : LJ} {R : RR} {gc : Nat → Nat} {S : PS} (hp : PlanAt I p S) (hr : ∀ e ∈ S.1, -1000000000 ≤ e.1 ∧ e.1 ≤ 1000000000) (h : Q (some (vI (zI (ltick S.1)))) I Lg R (GM gc)) : am_Sp Γ (d + 2) 0 0 mX8_lastTick [vR 8 p] I Lg R (GM gc) Q := by
  refine am_run vX8_lastTick 40 _ rfl rfl rfl rfl ?_
  exact lastTick_loop hp hr h S.1.length 0 _ _ (by omega) rfl rfl
