/-! Arrays.fill on any row of ints. -/
theorem dfl_0 : decode m_fill.2.2.1 0 = .ok (.iconst 0, 1) := by decide +kernel
theorem dfl_1 : decode m_fill.2.2.1 1 = .ok (.istore_n 2, 1) := by decide +kernel
theorem dfl_2 : decode m_fill.2.2.1 2 = .ok (.aload_n 0, 1) := by decide +kernel
theorem dfl_3 : decode m_fill.2.2.1 3 = .ok (.arraylength, 1) := by decide +kernel
theorem dfl_4 : decode m_fill.2.2.1 4 = .ok (.istore_n 3, 1) := by decide +kernel
theorem dfl_5 : decode m_fill.2.2.1 5 = .ok (.iload_n 2, 1) := by decide +kernel
theorem dfl_6 : decode m_fill.2.2.1 6 = .ok (.iload_n 3, 1) := by decide +kernel
theorem dfl_7 : decode m_fill.2.2.1 7 = .ok (.if_icmp .ge 13, 3) := by decide +kernel
theorem dfl_10 : decode m_fill.2.2.1 10 = .ok (.aload_n 0, 1) := by decide +kernel
theorem dfl_11 : decode m_fill.2.2.1 11 = .ok (.iload_n 2, 1) := by decide +kernel
theorem dfl_12 : decode m_fill.2.2.1 12 = .ok (.iload_n 1, 1) := by decide +kernel
theorem dfl_13 : decode m_fill.2.2.1 13 = .ok (.iastore, 1) := by decide +kernel
theorem dfl_14 : decode m_fill.2.2.1 14 = .ok (.iinc 2 1, 3) := by decide +kernel
theorem dfl_17 : decode m_fill.2.2.1 17 = .ok (.goto (-12), 3) := by decide +kernel
theorem dfl_20 : decode m_fill.2.2.1 20 = .ok (.return_, 1) := by decide +kernel
theorem fill_loop {Γ : AMG} {Q : QQ} {d c i N v z t : Nat} {x : Int32} {I : II} {Lg : LJ} {R : RR} {G : GG} (hck : am_ck c = (1, N, v, z, t)) (hN : N ≤ 1000000)
    (h : ∀ I' : II, (∀ v' i' j, I' v' i' j = if v' = v ∧ i' = i ∧ j < N then x else I v' i' j) → Q none I' Lg R G) :
    ∀ (m n : Nat) (x2 : Int32) (I1 : II), n + m = N → x2 = zI n → (∀ v' i' j, I1 v' i' j = if v' = v ∧ i' = i ∧ j < n then x else I v' i' j) →
      am_J Γ m_fill Q d 0 0 5 [some (vR c i), some (vI x), some (vI x2), some (vI (zI N))] [] I1 Lg R G := by
  intro m
  induction m with
  | zero =>
    intro n x2 I1 hm hx hI
    refine ar_iload_n (j := 2) rfl dfl_5 ?_
    refine ar_iload_n (j := 3) rfl dfl_6 ?_
    refine ar_ic_ge (tgt := 20) dfl_7 (by decide) (fun c => ?_) (fun c => ?_)
    · refine ar_ret dfl_20 rfl ?_
      rw [show n = N by omega] at hI
      exact h I1 hI
    · rw [hx, zI_toInt (by omega) (by omega), zI_toInt (by omega) (by omega)] at c
      omega
  | succ m ih =>
    intro n x2 I1 hm hx hI
    have hxt : x2.toInt = n := by rw [hx, zI_toInt (by omega) (by omega)]
    refine ar_iload_n (j := 2) rfl dfl_5 ?_
    refine ar_iload_n (j := 3) rfl dfl_6 ?_
    refine ar_ic_ge (tgt := 20) dfl_7 (by decide) (fun c => ?_) (fun c => ?_)
    · rw [hxt, zI_toInt (by omega) (by omega)] at c
      omega
    · refine ar_aload_n (j := 0) rfl dfl_10 ?_
      refine ar_iload_n (j := 2) rfl dfl_11 ?_
      refine ar_iload_n (j := 1) rfl dfl_12 ?_
      refine ar_iast hck (by omega) (by omega) dfl_13 ?_
      refine ar_iinc (j := 2) rfl dfl_14 ?_
      refine ar_goto (tgt := 5) dfl_17 (by decide) ?_
      refine ih (n + 1) (x2 + zI 1) _ (by omega) (by rw [hx, zI_add]; congr 1) (fun v' i' j => ?_)
      rw [up3_a, hI, hxt, Int.toNat_natCast]
      by_cases q : v' = v ∧ i' = i
      · obtain ⟨rfl, rfl⟩ := q
        by_cases q2 : j = n
        · rw [if_pos ⟨rfl, rfl, q2⟩, if_pos ⟨rfl, rfl, by omega⟩]
        · rw [if_neg (fun z => q2 z.2.2)]
          by_cases q3 : j < n
          · rw [if_pos ⟨rfl, rfl, q3⟩, if_pos ⟨rfl, rfl, by omega⟩]
          · rw [if_neg (fun z => q3 z.2.2), if_neg (fun z => by omega)]
      · rw [if_neg (fun z => q ⟨z.1, z.2.1⟩), if_neg (fun z => q ⟨z.1, z.2.1⟩), if_neg (fun z => q ⟨z.1, z.2.1⟩)]
theorem s_fill {Γ : AMG} {Q : QQ} {d c i N v z t : Nat} {x : Int32} {I : II} {Lg : LJ} {R : RR} {G : GG} (hck : am_ck c = (1, N, v, z, t)) (hN : N ≤ 1000000)
    (h : ∀ I' : II, (∀ v' i' j, I' v' i' j = if v' = v ∧ i' = i ∧ j < N then x else I v' i' j) → Q none I' Lg R G) : am_Sp Γ d 0 0 m_fill [vR c i, vI x] I Lg R G Q := by
  refine am_Sp.of rfl rfl (Nat.le_of_ble_eq_true rfl) ?_
  refine ar_iconst dfl_0 ?_
  refine ar_istore_n (j := 2) (Nat.le_of_ble_eq_true rfl) dfl_1 ?_
  refine ar_aload_n (j := 0) rfl dfl_2 ?_
  refine ar_alen hck (by omega) dfl_3 ?_
  refine ar_istore_n (j := 3) (Nat.le_of_ble_eq_true rfl) dfl_4 ?_
  refine fill_loop hck hN h N 0 (zI 0) I (by omega) rfl (fun v' i' j => ?_)
  rw [if_neg (fun z => by omega)]
/-- .. and its frame -/
theorem fill_fr {I I' : II} {v i N : Nat} {x : Int32} (h : ∀ v' i' j, I' v' i' j = if v' = v ∧ i' = i ∧ j < N then x else I v' i' j) : FrI (V1 [v] i) I I' ∧ ∀ j, j < N → I' v i j = x := by
  refine ⟨fun v' i' hq => ?_, fun j hj => by rw [h, if_pos ⟨rfl, rfl, hj⟩]⟩
  funext j
  rw [h, if_neg (fun z => ?_)]
  obtain ⟨rfl, rfl, -⟩ := z
  unfold V1 at hq
  simp at hq
