/-! Lists cut at 24. -/
def capL (L : LST) : PS := (L.take 24, decide (24 < L.length))
theorem take_two {A B : LST} (h : 24 ≤ A.length) : (A ++ B).take 24 = A.take 24 := by
  rw [List.take_append_of_le_length h]
theorem cap_padd (L : LST) (e : EV) : padd (capL L) e = capL (L ++ [e]) := by
  have hl : (L.take 24).length = min 24 L.length := List.length_take
  have hl2 : (L ++ [e]).length = L.length + 1 := by rw [List.length_append]; rfl
  unfold padd capL
  dsimp only
  rw [hl, hl2]
  by_cases h : L.length < 24
  · rw [if_pos (by omega), List.take_of_length_le (by omega), List.take_of_length_le (by omega), decide_eq_false (by omega), decide_eq_false (by omega)]
  · rw [if_neg (by omega), take_two (by omega), decide_eq_true (by omega : 24 < L.length + 1)]
theorem cap_fold : ∀ (M L : LST), M.foldl padd (capL L) = capL (L ++ M)
  | [], L => by rw [List.append_nil]; rfl
  | e :: M, L => by
    show M.foldl padd (padd (capL L) e) = _
    rw [cap_padd, cap_fold M]
    simp
theorem fold_true : ∀ (X A : LST), A.length ≤ 24 → X.foldl padd (A, true) = ((A ++ X).take 24, true)
  | [], A, h => by rw [List.append_nil, List.take_of_length_le h]; rfl
  | e :: X, A, h => by
    show X.foldl padd (padd (A, true) e) = _
    have hp : padd (A, true) e = if A.length < 24 then (A ++ [e], true) else (A, true) := rfl
    rw [hp]
    by_cases q : A.length < 24
    · rw [if_pos q, fold_true X (A ++ [e]) (by rw [List.length_append]; show A.length + 1 ≤ 24; omega)]
      simp
    · rw [if_neg q, fold_true X A h, take_two (by omega), take_two (by omega)]
theorem take_mid (A B : LST) : (A ++ B).take 24 = (A.take 24 ++ B.take 24).take 24 := by
  by_cases h : 24 ≤ A.length
  · rw [take_two h, take_two (by rw [List.length_take]; omega), List.take_take]
    rfl
  · rw [List.take_of_length_le (by omega : A.length ≤ 24), List.take_append, List.take_append, List.take_of_length_le (by omega : A.length ≤ 24), List.take_take]
    congr 2
    omega
theorem cap_addAll (L M : LST) (l : Int) : paddAll (capL L) (capL M) l = capL (L ++ M.map (shE l)) := by
  unfold paddAll
  by_cases h : 24 < M.length
  · have e1 : (capL M).2 = true := decide_eq_true h
    have e2 : (capL M).1 = M.take 24 := rfl
    have e3 : (capL L).1 = L.take 24 := rfl
    rw [e1, e2, e3, Bool.or_true, fold_true _ _ (by rw [List.length_take]; omega), List.map_take, ← take_mid]
    unfold capL
    rw [decide_eq_true (by rw [List.length_append, List.length_map]; omega : 24 < (L ++ M.map (shE l)).length)]
  · have e1 : (capL M).2 = false := decide_eq_false h
    have e2 : (capL M).1 = M := List.take_of_length_le (by omega)
    rw [e1, e2, Bool.or_false]
    exact cap_fold _ L
theorem cap_prep (A B : LST) (times : Nat) (ev : Int) (ht : 1 ≤ times) : prep (capL (A ++ B)) (min 24 A.length) times ev = capL (A ++ repL B ev times) := by
  have hr1 : repL B ev 1 = B := by
    show [] ++ B.map (shE ((0 : Nat) * ev)) = B
    rw [List.nil_append, show ((0 : Nat) : Int) * ev = 0 by omega, shE_0]
  unfold prep
  by_cases h : (A ++ B).length ≤ 24
  · have hc : capL (A ++ B) = (A ++ B, false) := by
      unfold capL
      rw [List.take_of_length_le h, decide_eq_false (by omega)]
    have hA : A.length ≤ 24 := by rw [List.length_append] at h; omega
    have key : ∀ n : Nat, prepN (capL (A ++ B)) (min 24 A.length) ev n = capL (A ++ repL B ev (n + 1)) := by
      intro n
      induction n with
      | zero => rw [hr1]; rfl
      | succ n ih =>
        unfold prepN at ih ⊢
        rw [List.range_succ, List.foldl_append, ih]
        show (prepE ((capL (A ++ B)).1.drop (min 24 A.length)) ((n : Int) + 1) ev).foldl padd (capL (A ++ repL B ev (n + 1))) = _
        have hd : (capL (A ++ B)).1.drop (min 24 A.length) = B := by
          rw [hc, show min 24 A.length = A.length by omega]
          exact List.drop_left
        rw [hd, cap_fold, List.append_assoc]
        rfl
    rw [key (times - 1), show times - 1 + 1 = times by omega]
  · have hlen : 24 < (A ++ B).length := by omega
    have hc : capL (A ++ B) = ((A ++ B).take 24, true) := by
      unfold capL
      rw [decide_eq_true hlen]
    have hfull : ((A ++ B).take 24).length = 24 := by rw [List.length_take]; omega
    have key : ∀ n : Nat, prepN (capL (A ++ B)) (min 24 A.length) ev n = capL (A ++ B) := by
      intro n
      induction n with
      | zero => rfl
      | succ n ih =>
        unfold prepN at ih ⊢
        rw [List.range_succ, List.foldl_append, ih]
        show (prepE ((capL (A ++ B)).1.drop (min 24 A.length)) ((n : Int) + 1) ev).foldl padd (capL (A ++ B)) = _
        generalize prepE ((capL (A ++ B)).1.drop (min 24 A.length)) ((n : Int) + 1) ev = X
        rw [hc, fold_true X _ (by omega), take_two (by omega), List.take_of_length_le (by omega)]
    rw [key]
    obtain ⟨M, hM⟩ := repL_app (L := B) (ev := ev) 1 times ht
    rw [hM, hr1, ← List.append_assoc]
    unfold capL
    rw [take_two (A := A ++ B) (B := M) (by omega), decide_eq_true hlen, decide_eq_true (by rw [List.length_append]; omega : 24 < (A ++ B ++ M).length)]
theorem capL_len (L : LST) : (capL L).1.length = min 24 L.length := List.length_take
