/-! The kit state at the start, further. -/
theorem len_lt : ∀ i, i < 11 → lenO.getD i 0 < 2 ^ 31 := by decide +kernel
theorem kw_lt {q : Nat} (h : kwOf q ≠ []) : q < 11 ∧ txt q = kwOf q := by
  match q, h with
  | 0, _ => exact ⟨by omega, rfl⟩
  | 1, _ => exact ⟨by omega, rfl⟩
  | 2, _ => exact ⟨by omega, rfl⟩
  | 3, h => exact absurd rfl h
  | 4, h => exact absurd rfl h
  | 5, h => exact absurd rfl h
  | 6, _ => exact ⟨by omega, rfl⟩
  | 7, _ => exact ⟨by omega, rfl⟩
  | 8, _ => exact ⟨by omega, rfl⟩
  | 9, _ => exact ⟨by omega, rfl⟩
  | 10, _ => exact ⟨by omega, rfl⟩
  | n + 11, h => exact absurd rfl h
theorem lenO_at {q : Nat} (h : q < 11) : lenO.getD q 0 = (txt q).length := by
  unfold lenO
  rw [List.getD_eq_getElem?_getD, List.getElem?_map, List.getElem?_range h]
  rfl
theorem bytO_at {q j : Nat} (h : q < 11) : (bytO.getD q []).getD j 0 = zI ((txt q).getD j 0) := by
  unfold bytO
  rw [List.getD_eq_getElem?_getD (l := (List.range 11).map _), List.getElem?_map, List.getElem?_range h]
  show ((txt q).map zI).getD j 0 = _
  rw [List.getD_eq_getElem?_getD, List.getD_eq_getElem?_getD, List.getElem?_map]
  cases (txt q)[j]? with
  | none => rfl
  | some x => rfl
def rI : List Nat := [777, 872, 878, 894, 895, 842, 847, 877, 1270, 1307, 1320]
theorem rL_in : ∀ e ∈ rL, Cond.stringRef e.1 e.2.1 e.2.2.1 ∈ lw_tbl := by
  intro e he
  have h : rL.map (fun e => some (Cond.stringRef e.1 e.2.1 e.2.2.1)) = rI.map (fun i => lw_tbl[i]?) := by decide +kernel
  obtain ⟨k, hk⟩ := List.getElem?_of_mem he
  have h2 := congrArg (fun l => l[k]?) h
  simp only [List.getElem?_map, hk, Option.map_some] at h2
  cases hr : rI[k]? with
  | none => rw [hr] at h2; cases h2
  | some i =>
    rw [hr] at h2
    exact List.mem_of_getElem? (Option.some.inj h2).symm
theorem rL_tm : ∀ e ∈ rL, tmO e.2.2.2 = .string e.1 e.2.1 ∧ e.2.2.2 < 11 := by decide
theorem ng_in : ∀ w ∈ tx_ng, w ∈ lw_tbl ∧ w.onTables = true := by
  intro w hw
  simp only [tx_ng, List.mem_cons, List.not_mem_nil, or_false] at hw
  rcases hw with rfl | rfl | rfl | rfl
  · exact ⟨List.mem_of_getElem? (i := 1233) (by decide +kernel), rfl⟩
  · exact ⟨List.mem_of_getElem? (i := 1235) (by decide +kernel), rfl⟩
  · exact ⟨List.mem_of_getElem? (i := 1237) (by decide +kernel), rfl⟩
  · exact ⟨List.mem_of_getElem? (i := 1239) (by decide +kernel), rfl⟩
theorem kx_start {s : State} {b L : Nat} {xs : Nat → Int32} (hts : ∀ w ∈ lw_tbl, w.before #[Value.ref b] s = true) (hX : va_X b L xs s s.heap) (hgv : (Cond.and given_1 narrow_1).before #[Value.ref b] s = true) :
    ∃ ad : Nat → Nat, am_KXd s.heap b L xs ad s := by
  have hs := flat_of_before _ hgv
  have hA : ∀ a : Nat, a < s.heap.size → ¬ s.heap.size ≤ a := fun a h => Nat.not_le.mpr h
  have tb : ∀ (i : Nat) (w : Cond), lw_tbl[i]? = some w → w.before #[Value.ref b] s = true := fun i w h => hts w (List.mem_of_getElem? h)
  obtain ⟨ad, av, hS, hev⟩ := vk_Sof (args := #[Value.ref b]) (s := s) (N := 11) (tm := tmO) (len := lenO) (byt := bytO) (A := fun a => s.heap.size ≤ a) len_lt (fun i hi => hs _ (fl_ex i hi)) (fun i hi => hs _ (fl_co i hi)) (fun i hi => hs _ (fl_ar i hi)) (fun i hi => hs _ (fl_le i hi)) (fun i hi j hj => hs _ (fl_el i hi j hj)) (fun i j hi hj hne => (fl_ne i hi j hj hne).imp (fun h => hs _ h) (fun h => hs _ h)) hA
  refine ⟨ad, hX, fun q hq => ?_, fun e he => ?_, ⟨?_, ?_⟩, fun w hw => ?_, fun w hw hn => ?_⟩
  · obtain ⟨hq11, htx⟩ := kw_lt hq
    obtain ⟨g1, g2, g3, g4⟩ := hS.1 q hq11
    rw [lenO_at hq11, htx] at g4
    have e1 : (fun j => Value.int ((bytO.getD q []).getD j 0)) = (fun j => Value.int (zI ((kwOf q).getD j 0))) := by
      funext j
      rw [bytO_at hq11, htx]
    rw [e1] at g4
    refine ⟨av q, va_Zof (tb 791 _ (by decide +kernel)) (tb 121 _ (by decide +kernel)) (va_eqi (hs _ (by decide +kernel))) hA, g2, g3, g4, g1, va_Zqof (tb 807 _ (by decide +kernel)) (tb 123 _ (by decide +kernel)) (hs _ (by decide +kernel)) hA⟩
  · obtain ⟨e1, e2⟩ := rL_tm e he
    have h2 := hev _ e2
    rw [e1] at h2
    exact vk_R.of (hts _ (rL_in e he)) h2
  · exact vx_Zqof (tb 1258 _ (by decide +kernel)) (tb 117 _ (by decide +kernel)) (hs _ (by decide +kernel)) hA
  · exact vx_Zqof (tb 1260 _ (by decide +kernel)) (tb 117 _ (by decide +kernel)) (hs _ (by decide +kernel)) hA
  · obtain ⟨h1, h2⟩ := ng_in w hw
    exact va_Nw.of h2 (hts w h1)
  · match w, hn, hts w hw with
    | .methodLinkNest a i x y, _, h => exact va_Nw.of rfl h
    | .arrayOver ty, _, h => exact h
