/-! All ways in their order, and how far a fall is from what was wished. -/
theorem range_mul (b : Nat) : ∀ a : Nat, List.range (a * b) = (List.range a).flatMap (fun i => (List.range b).map (fun j => i * b + j))
  | 0 => by rw [Nat.zero_mul]; rfl
  | a + 1 => by
    rw [Nat.add_mul, Nat.one_mul, List.range_add, range_mul b a, List.range_succ, List.flatMap_append]
    congr 1
    rw [List.flatMap_cons, List.flatMap_nil, List.append_nil]
def dgt (c n way k : Nat) : Nat := way / c ^ (n - 1 - k) % c
def wayL (c n way : Nat) : List Nat := (List.range n).map (dgt c n way)
theorem wayL_s {c n b w : Nat} (hb : b < c) (hw : w < c ^ n) : wayL c (n + 1) (b * c ^ n + w) = b :: wayL c n w := by
  unfold wayL
  rw [List.range_succ_eq_map, List.map_cons, List.map_map]
  have hp : 0 < c ^ n := by omega
  congr 1
  · unfold dgt
    rw [show n + 1 - 1 - 0 = n by omega, Nat.add_comm, Nat.add_mul_div_right _ _ hp, Nat.div_eq_of_lt hw, Nat.zero_add, Nat.mod_eq_of_lt hb]
  · refine List.map_congr_left (fun k hk => ?_)
    have hk := List.mem_range.mp hk
    show dgt c (n + 1) (b * c ^ n + w) (k + 1) = dgt c n w k
    unfold dgt
    rw [show n + 1 - 1 - (k + 1) = n - 1 - k by omega]
    have e : c ^ n = c ^ (n - 1 - k) * (c * c ^ k) := by
      rw [← Nat.pow_succ', ← Nat.pow_add]
      congr 1
      omega
    have hq : 0 < c ^ (n - 1 - k) := Nat.pow_pos (by omega)
    rw [e, show b * (c ^ (n - 1 - k) * (c * c ^ k)) + w = w + b * (c * c ^ k) * c ^ (n - 1 - k) by
      rw [Nat.add_comm w]
      congr 1
      rw [Nat.mul_assoc b, Nat.mul_comm (c * c ^ k)], Nat.add_mul_div_right _ _ hq, show b * (c * c ^ k) = c * (b * c ^ k) by rw [Nat.mul_left_comm], Nat.add_mul_mod_self_left]
theorem seqs_ways {c : Nat} (hc : 0 < c) : ∀ n : Nat, seqs c n = (List.range (c ^ n)).map (wayL c n)
  | 0 => rfl
  | n + 1 => by
    show (List.range c).flatMap (fun b => (seqs c n).map (fun s => b :: s)) = _
    rw [seqs_ways hc n, Nat.pow_succ', range_mul, List.map_flatMap]
    have h : ∀ l : List Nat, (∀ b ∈ l, b < c) → l.flatMap (fun b => ((List.range (c ^ n)).map (wayL c n)).map (fun s => b :: s)) = l.flatMap (fun b => ((List.range (c ^ n)).map (fun j => b * c ^ n + j)).map (wayL c (n + 1))) := by
      intro l
      induction l with
      | nil => intro _; rfl
      | cons b l ih =>
        intro hl
        rw [List.flatMap_cons, List.flatMap_cons, ih (fun x hx => hl x (List.mem_cons_of_mem _ hx))]
        congr 1
        rw [List.map_map, List.map_map]
        refine List.map_congr_left (fun w hw => ?_)
        exact (wayL_s (hl b List.mem_cons_self) (List.mem_range.mp hw)).symm
    exact h _ (fun b hb => List.mem_range.mp hb)
theorem wayL_len {c n w : Nat} : (wayL c n w).length = n := by unfold wayL; rw [List.length_map, List.length_range]
theorem wayL_get {c n w k : Nat} (hk : k < n) : (wayL c n w).getD k 0 = dgt c n w k := by
  unfold wayL
  simp only [List.getD]
  rw [List.getElem?_map, List.getElem?_range hk]
  rfl
theorem wayL_lt {c n w : Nat} (hc : 0 < c) : ∀ x ∈ wayL c n w, x < c := by
  intro x hx
  unfold wayL at hx
  obtain ⟨k, -, rfl⟩ := List.mem_map.mp hx
  exact Nat.mod_lt _ hc
/-- the reference's choice among the ways -/
def updM (st : Int × List Nat) (e : Int) (q : List Nat) : Int × List Nat := if st.1 ≠ -1 ∧ st.1 ≤ e then st else (e, q)
theorem updM_eq : ∀ (l : List (Int × List Nat)) (st : Int × List Nat), 0 ≤ st.1 → (∀ x ∈ l, 0 ≤ x.1) → l.foldl (fun st x => updM st x.1 x.2) st = l.foldl (fun st x => updL st x.1 x.2) st
  | [], _, _, _ => rfl
  | x :: l, st, h0, h => by
    rw [List.foldl_cons, List.foldl_cons]
    have hx := h x List.mem_cons_self
    have e : updM st x.1 x.2 = updL st x.1 x.2 := by
      unfold updM updL
      by_cases q : x.1 < st.1
      · rw [if_neg (by omega), if_pos q]
      · rw [if_pos (by omega), if_neg q]
    rw [e]
    refine updM_eq l _ ?_ (fun y hy => h y (List.mem_cons_of_mem _ hy))
    unfold updL
    split
    · exact hx
    · exact h0
def layM (bd : List BD) (nW : Nat) (W : Nat → Int) (n : Nat) (q0 : List Nat) (k : Nat) : Int × List Nat := ((List.range k).map (wayL (min bd.length 8) n)).foldl (fun st s => updM st (errS bd nW W s (0, 0, 0, 0, 0, 0)) s) (-1, q0)
theorem layM_s {bd : List BD} {nW : Nat} {W : Nat → Int} {n : Nat} {q0 : List Nat} {k : Nat} : layM bd nW W n q0 (k + 1) = updM (layM bd nW W n q0 k) (errS bd nW W (wayL (min bd.length 8) n k) (0, 0, 0, 0, 0, 0)) (wayL (min bd.length 8) n k) := by
  unfold layM
  rw [List.range_succ, List.map_append, List.foldl_append]
  rfl
theorem layM_eq {bd : List BD} {nW : Nat} {W : Nat → Int} {n : Nat} {q0 : List Nat} (hn : nW ≤ 10) (h4 : n ≤ 4) (h0 : 0 < bd.length) (hbs : ∀ (j : Nat) (b : BD), bd[j]? = some b → BDok b) (hW : ∀ k, 0 ≤ W k ∧ W k ≤ 65535) : layM bd nW W n q0 (min bd.length 8 ^ n) = layA bd nW W n := by
  have hc : 0 < min bd.length 8 := by omega
  have hlt := errS_lt (bds := bd) (W := W) (c := min bd.length 8) (n := n) hn h4 hbs hW
  have hge : ∀ s ∈ seqs (min bd.length 8) n, 0 ≤ errS bd nW W s (0, 0, 0, 0, 0, 0) := fun s hs => by
    have hsl := seqs_len _ _ hs
    have := errS_ge (nW := nW) (bds := bd) hbs hW s (0, 0, 0, 0, 0, 0) w0_ok (by show (0 : Int) + _ ≤ 100; omega) (by show (0 : Int) + 65535 * _ ≤ _; omega)
    have e : ((0, 0, 0, 0, 0, 0) : CRW).2.2.2.2.2 = 0 := rfl
    omega
  obtain ⟨r, hr⟩ := seqs_hd hc n
  unfold layM layA layF
  rw [← seqs_ways hc n]
  rw [hr] at hlt hge ⊢
  have h1 := hlt _ List.mem_cons_self
  have h2 := hge _ List.mem_cons_self
  rw [List.foldl_cons, List.foldl_cons]
  have e1 : updM (-1, q0) (errS bd nW W (List.replicate n 0) (0, 0, 0, 0, 0, 0)) (List.replicate n 0) = (errS bd nW W (List.replicate n 0) (0, 0, 0, 0, 0, 0), List.replicate n 0) := by
    unfold updM
    rw [if_neg (fun z => z.1 rfl)]
  have e2 : updL (1000000, []) (errS bd nW W (List.replicate n 0) (0, 0, 0, 0, 0, 0)) ([] ++ List.replicate n 0) = (errS bd nW W (List.replicate n 0) (0, 0, 0, 0, 0, 0), List.replicate n 0) := by
    unfold updL
    rw [if_pos h1, List.nil_append]
  rw [e1, e2]
  have h9 := updM_eq (r.map (fun s => (errS bd nW W s (0, 0, 0, 0, 0, 0), s))) (errS bd nW W (List.replicate n 0) (0, 0, 0, 0, 0, 0), List.replicate n 0) h2 (fun x hx => by
    obtain ⟨s, hs, rfl⟩ := List.mem_map.mp hx
    exact hge s (List.mem_cons_of_mem _ hs))
  rw [List.foldl_map, List.foldl_map] at h9
  exact h9
theorem layM_rng {bd : List BD} {nW : Nat} {W : Nat → Int} {n : Nat} {q0 : List Nat} (hn : nW ≤ 10) (h4 : n ≤ 4) (hbs : ∀ (j : Nat) (b : BD), bd[j]? = some b → BDok b) (hW : ∀ k, 0 ≤ W k ∧ W k ≤ 65535) : ∀ k : Nat, -1 ≤ (layM bd nW W n q0 k).1 ∧ (layM bd nW W n q0 k).1 ≤ 1000000
  | 0 => ⟨Int.le_refl _, by show (-1 : Int) ≤ _; omega⟩
  | k + 1 => by
    rw [layM_s]
    have h1 := layM_rng (bd := bd) (q0 := q0) hn h4 hbs hW k
    have h2 := errS_le (nW := nW) hn hbs hW (wayL (min bd.length 8) n k) (0, 0, 0, 0, 0, 0) w0_ok (by rw [wayL_len]; show (0 : Int) + _ ≤ 100; omega) (by rw [wayL_len]; show (0 : Int) + 65535 * _ ≤ _; omega)
    have h3 := errS_ge (nW := nW) (bds := bd) hbs hW (wayL (min bd.length 8) n k) (0, 0, 0, 0, 0, 0) w0_ok (by rw [wayL_len]; show (0 : Int) + _ ≤ 100; omega) (by rw [wayL_len]; show (0 : Int) + 65535 * _ ≤ _; omega)
    rw [wayL_len] at h2 h3
    have e : ((0, 0, 0, 0, 0, 0) : CRW).2.2.2.2.2 = 0 := rfl
    unfold updM
    split
    · exact h1
    · dsimp only
      omega
theorem layM_len {bd : List BD} {nW : Nat} {W : Nat → Int} {n : Nat} {q0 : List Nat} : ∀ k : Nat, (layM bd nW W n q0 (k + 1)).2.length = n
  | 0 => by
    rw [layM_s]
    unfold updM
    rw [if_neg (fun z => z.1 rfl)]
    exact wayL_len
  | k + 1 => by
    rw [layM_s]
    unfold updM
    split
    · exact layM_len k
    · exact wayL_len
/-! err, step by step -/
def errN (nW : Nat) (W : Nat → Int) (ks : KS) : Nat → Int
  | 0 => 0
  | k + 1 => errN nW W ks k + match ks[k]? with
    | some e => if k < nW then ((W k - e.1).natAbs : Int) else 100
    | none => 100
theorem sumT_take {nW : Nat} {W : Nat → Int} {ks : KS} : ∀ k : Nat, k ≤ ks.length → errN nW W ks k = sumT nW W (ks.take k) 0
  | 0, _ => by rw [List.take_zero]; rfl
  | k + 1, h => by
    have he : ks[k]? = some ks[k] := List.getElem?_eq_getElem (by omega)
    have ht : ks.take (k + 1) = ks.take k ++ [ks[k]] := by rw [List.take_succ, he]; rfl
    rw [ht, sumT_app, ← sumT_take k (by omega), List.length_take]
    show errN nW W ks k + (match ks[k]? with
      | some e => if k < nW then ((W k - e.1).natAbs : Int) else 100
      | none => 100) = _
    rw [he]
    dsimp only
    rw [show 0 + min k ks.length = k by omega]
    unfold costK
    by_cases q : k < nW
    · rw [if_pos q, if_pos (by omega)]
      omega
    · rw [if_neg q, if_neg (by omega)]
theorem errN_past {nW : Nat} {W : Nat → Int} {ks : KS} : ∀ m : Nat, errN nW W ks (ks.length + m) = sumT nW W ks 0 + 100 * m
  | 0 => by
    rw [Nat.add_zero, sumT_take _ (Nat.le_refl _), List.take_length]
    omega
  | m + 1 => by
    show errN nW W ks (ks.length + m) + (match ks[ks.length + m]? with
      | some e => if ks.length + m < nW then ((W (ks.length + m) - e.1).natAbs : Int) else 100
      | none => 100) = _
    rw [errN_past m, List.getElem?_eq_none (by omega)]
    dsimp only
    omega
theorem errN_eq {nW : Nat} {W : Nat → Int} {ks : KS} : errN nW W ks (max nW ks.length) = errT nW W ks := by
  unfold errT errV
  by_cases h : nW ≤ ks.length
  · rw [show max nW ks.length = ks.length + 0 by omega, errN_past]
    omega
  · rw [show max nW ks.length = ks.length + (nW - ks.length) by omega, errN_past]
    omega
theorem errN_rng {nW : Nat} {W : Nat → Int} {ks : KS} (hW : ∀ k, 0 ≤ W k ∧ W k ≤ 65535) (hks : ∀ e ∈ ks, 0 ≤ e.1 ∧ e.1 ≤ 2000) : ∀ k : Nat, 0 ≤ errN nW W ks k ∧ errN nW W ks k ≤ 70000 * k
  | 0 => ⟨Int.le_refl _, Int.le_refl _⟩
  | k + 1 => by
    have h := errN_rng (nW := nW) (ks := ks) hW hks k
    have hw := hW k
    unfold errN
    cases hx : ks[k]? with
    | none => dsimp only; omega
    | some e =>
      have h8 := hks e (List.mem_of_getElem? hx)
      have h9 : 0 ≤ ((W k - e.1).natAbs : Int) ∧ ((W k - e.1).natAbs : Int) ≤ 70000 := by omega
      dsimp only
      generalize ((W k - e.1).natAbs : Int) = z at h9
      split <;> omega
