/-! What is laid: all ways in their order, and the first of the least. -/
def errS (bds : List BD) (nW : Nat) (W : Nat → Int) : List Nat → CRW → Int
  | [], w => errV nW w.2.2.2.2.1 w.2.2.2.2.2
  | c :: cs, w => match (bds[c]?).bind (fun b => lay1 b nW W w) with
    | none => errV nW w.2.2.2.2.1 w.2.2.2.2.2
    | some w' => errS bds nW W cs w'
def seqs (c : Nat) : Nat → List (List Nat)
  | 0 => [[]]
  | m + 1 => (List.range c).flatMap (fun b => (seqs c m).map (fun s => b :: s))
def updL (st : Int × List Nat) (e : Int) (q : List Nat) : Int × List Nat := if e < st.1 then (e, q) else st
def layF (bds : List BD) (nW : Nat) (W : Nat → Int) (c m : Nat) (pre : List Nat) (w : CRW) (st : Int × List Nat) : Int × List Nat := (seqs c m).foldl (fun st s => updL st (errS bds nW W s w) (pre ++ s)) st
def layB (bds : List BD) (nW : Nat) (W : Nat → Int) (c m : Nat) (pre : List Nat) (w : CRW) (st : Int × List Nat) (b : Nat) : Int × List Nat := (seqs c m).foldl (fun st s => updL st (errS bds nW W (b :: s) w) (pre ++ b :: s)) st
theorem layF_s {bds : List BD} {nW : Nat} {W : Nat → Int} {c m : Nat} {pre : List Nat} {w : CRW} {st : Int × List Nat} : layF bds nW W c (m + 1) pre w st = (List.range c).foldl (fun st b => layB bds nW W c m pre w st b) st := by
  unfold layF layB
  show ((List.range c).flatMap _).foldl _ st = _
  rw [List.foldl_flatMap]
  congr 1
  funext st b
  rw [List.foldl_map]
theorem layB_some {bds : List BD} {nW : Nat} {W : Nat → Int} {c m b : Nat} {pre : List Nat} {w w' : CRW} {x : BD} {st : Int × List Nat} (hb : bds[b]? = some x) (h : lay1 x nW W w = some w') : layB bds nW W c m pre w st b = layF bds nW W c m (pre ++ [b]) w' st := by
  unfold layB layF
  congr 1
  funext st s
  have e1 : errS bds nW W (b :: s) w = errS bds nW W s w' := by
    show (match (bds[b]?).bind (fun b => lay1 b nW W w) with
      | none => _
      | some w' => _) = _
    rw [hb]
    show (match lay1 x nW W w with
      | none => _
      | some w' => _) = _
    rw [h]
  rw [e1, List.append_assoc]
  rfl
theorem seqs_hd {c : Nat} (hc : 0 < c) : ∀ m, ∃ r, seqs c m = List.replicate m 0 :: r
  | 0 => ⟨[], rfl⟩
  | m + 1 => by
    obtain ⟨r, hr⟩ := seqs_hd hc m
    obtain ⟨c', rfl⟩ : ∃ c', c = c' + 1 := ⟨c - 1, by omega⟩
    refine ⟨r.map (fun s => 0 :: s) ++ ((List.range c').map Nat.succ).flatMap (fun b => (List.replicate m 0 :: r).map (fun s => b :: s)), ?_⟩
    show (List.range (c' + 1)).flatMap _ = _
    rw [List.range_succ_eq_map, List.flatMap_cons]
    rw [hr]
    rfl
theorem upd_ge {st : Int × List Nat} : ∀ (l : List (Int × List Nat)), (∀ x ∈ l, st.1 ≤ x.1) → l.foldl (fun st x => updL st x.1 x.2) st = st
  | [], _ => rfl
  | x :: l, h => by
    have h1 := h x List.mem_cons_self
    show l.foldl _ (updL st x.1 x.2) = st
    have e : updL st x.1 x.2 = st := by
      unfold updL
      rw [if_neg (by omega)]
    rw [e]
    exact upd_ge l (fun y hy => h y (List.mem_cons_of_mem _ hy))
theorem layB_none {bds : List BD} {nW : Nat} {W : Nat → Int} {c m b : Nat} {pre : List Nat} {w : CRW} {x : BD} {st : Int × List Nat} (hc : 0 < c) (hb : bds[b]? = some x) (h : lay1 x nW W w = none) : layB bds nW W c m pre w st b = updL st (errV nW w.2.2.2.2.1 w.2.2.2.2.2) (pre ++ b :: List.replicate m 0) := by
  have e1 : ∀ s, errS bds nW W (b :: s) w = errV nW w.2.2.2.2.1 w.2.2.2.2.2 := fun s => by
    show (match (bds[b]?).bind (fun b => lay1 b nW W w) with
      | none => _
      | some w' => _) = _
    rw [hb]
    show (match lay1 x nW W w with
      | none => _
      | some w' => _) = _
    rw [h]
  obtain ⟨r, hr⟩ := seqs_hd hc m
  unfold layB
  rw [hr]
  show r.foldl _ (updL st (errS bds nW W (b :: List.replicate m 0) w) (pre ++ b :: List.replicate m 0)) = _
  rw [e1]
  generalize hst : updL st (errV nW w.2.2.2.2.1 w.2.2.2.2.2) (pre ++ b :: List.replicate m 0) = st2
  have hle : st2.1 ≤ errV nW w.2.2.2.2.1 w.2.2.2.2.2 := by
    rw [← hst]
    unfold updL
    split
    · exact Int.le_refl _
    · omega
  have := upd_ge (st := st2) (r.map (fun s => (errS bds nW W (b :: s) w, pre ++ b :: s))) (fun y hy => by
    obtain ⟨s, -, rfl⟩ := List.mem_map.mp hy
    show st2.1 ≤ errS bds nW W (b :: s) w
    rw [e1]
    exact hle)
  rw [List.foldl_map] at this
  exact this
/-- no way goes below what is sure to lack -/
theorem errS_ge {bds : List BD} {nW : Nat} {W : Nat → Int} (hbs : ∀ (j : Nat) (b : BD), bds[j]? = some b → BDok b) (hW : ∀ k, 0 ≤ W k ∧ W k ≤ 65535) : ∀ (s : List Nat) (w : CRW), CRok w → w.2.2.2.2.1 + s.length ≤ 100 → w.2.2.2.2.2 + 65535 * s.length ≤ 10000000 → w.2.2.2.2.2 + 100 * max 0 (nW - w.2.2.2.2.1 - s.length) ≤ errS bds nW W s w
  | [], w, _, _, _ => by
    show _ ≤ errV nW w.2.2.2.2.1 w.2.2.2.2.2
    unfold errV
    simp only [List.length_nil]
    omega
  | c :: cs, w, hw, h1, h2 => by
    rw [List.length_cons] at h1 h2 ⊢
    show _ ≤ (match (bds[c]?).bind (fun b => lay1 b nW W w) with
      | none => errV nW w.2.2.2.2.1 w.2.2.2.2.2
      | some w' => errS bds nW W cs w')
    cases hb : bds[c]? with
    | none =>
      show _ ≤ errV nW w.2.2.2.2.1 w.2.2.2.2.2
      unfold errV
      omega
    | some x =>
      show _ ≤ (match lay1 x nW W w with
        | none => errV nW w.2.2.2.2.1 w.2.2.2.2.2
        | some w' => errS bds nW W cs w')
      cases hl : lay1 x nW W w with
      | none =>
        show _ ≤ errV nW w.2.2.2.2.1 w.2.2.2.2.2
        unfold errV
        omega
      | some w' =>
        show _ ≤ errS bds nW W cs w'
        obtain ⟨q1, q2, q3, q4, q5⟩ := lay1_ok (hbs c x hb) hW hw hl
        have hok' : CRok w' := ⟨q1, q2, q3, ⟨by have := hw.2.2.2.1; omega, by omega⟩, by have := hw.2.2.2.2; omega, by omega⟩
        have := errS_ge (nW := nW) hbs hW cs w' hok' (by omega) (by omega)
        omega
theorem layF_ge {bds : List BD} {nW : Nat} {W : Nat → Int} {c m : Nat} {pre : List Nat} {w : CRW} {st : Int × List Nat} (h : ∀ s ∈ seqs c m, st.1 ≤ errS bds nW W s w) : layF bds nW W c m pre w st = st := by
  have := upd_ge (st := st) ((seqs c m).map (fun s => (errS bds nW W s w, pre ++ s))) (fun y hy => by
    obtain ⟨s, hs, rfl⟩ := List.mem_map.mp hy
    exact h s hs)
  rw [List.foldl_map] at this
  exact this
theorem seqs_len {c : Nat} : ∀ (m : Nat) (s : List Nat), s ∈ seqs c m → s.length = m
  | 0, s, h => by
    rw [List.mem_singleton.mp h]
    rfl
  | m + 1, s, h => by
    obtain ⟨b, -, hb⟩ := List.mem_flatMap.mp h
    obtain ⟨s', hs', rfl⟩ := List.mem_map.mp hb
    rw [List.length_cons, seqs_len m s' hs']
