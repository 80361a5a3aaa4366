/-! Worn steps: the least set, the first of its kind. -/
def Better (a b : Nat) : Prop := pop a < pop b ∨ (pop a = pop b ∧ preL a b)
def Expl (rn : RUN) (nW : Nat) (W : Nat → Int) (M : Nat) : Prop := ∀ k : Nat, k < nW → ∃ e ∈ (fall9 rn (zI 0) (lsM M)).ks, e.1 = W k
def wornA (rn : RUN) (nW : Nat) (W : Nat → Int) : Int := if ((wlv rn nW W 13 (0, 0, 0, 0, 0, 0) 0).foldl updW (1000000, 0)).1 = 1000000 then -2 else (((wlv rn nW W 13 (0, 0, 0, 0, 0, 0) 0).foldl updW (1000000, 0)).2 : Nat)
theorem updW_fold : ∀ (l : List (Int × Nat)) (st : Int × Nat), l.Pairwise (fun a b => preL a.2 b.2) → (l.foldl updW st = st ∧ ∀ y ∈ l, st.1 ≤ y.1) ∨ (l.foldl updW st ∈ l ∧ (l.foldl updW st).1 < st.1 ∧ ∀ y ∈ l, y = l.foldl updW st ∨ (l.foldl updW st).1 < y.1 ∨ ((l.foldl updW st).1 = y.1 ∧ preL (l.foldl updW st).2 y.2))
  | [], st, _ => Or.inl ⟨rfl, fun y hy => by cases hy⟩
  | x :: l, st, h => by
    obtain ⟨h1, h2⟩ := List.pairwise_cons.mp h
    rw [List.foldl_cons]
    by_cases q : x.1 < st.1
    · rw [show updW st x = x from if_pos q]
      rcases updW_fold l x h2 with ⟨i1, i2⟩ | ⟨i1, i2, i3⟩
      · rw [i1]
        refine Or.inr ⟨List.mem_cons_self, q, fun y hy => ?_⟩
        rcases List.mem_cons.mp hy with rfl | hy
        · exact Or.inl rfl
        · have := i2 y hy
          by_cases z : x.1 < y.1
          · exact Or.inr (Or.inl z)
          · exact Or.inr (Or.inr ⟨by omega, h1 y hy⟩)
      · refine Or.inr ⟨List.mem_cons_of_mem _ i1, by omega, fun y hy => ?_⟩
        rcases List.mem_cons.mp hy with rfl | hy
        · exact Or.inr (Or.inl i2)
        · exact i3 y hy
    · rw [show updW st x = st from if_neg q]
      rcases updW_fold l st h2 with ⟨i1, i2⟩ | ⟨i1, i2, i3⟩
      · refine Or.inl ⟨i1, fun y hy => ?_⟩
        rcases List.mem_cons.mp hy with rfl | hy
        · omega
        · exact i2 y hy
      · refine Or.inr ⟨List.mem_cons_of_mem _ i1, i2, fun y hy => ?_⟩
        rcases List.mem_cons.mp hy with rfl | hy
        · exact Or.inr (Or.inl (by omega))
        · exact i3 y hy
theorem WS_0 {rn : RUN} {nW : Nat} {W : Nat → Int} (hrn : RUNok rn) (hn : 0 < rn.length) (hW0 : ∀ k, 0 ≤ W k ∧ W k ≤ 65535) : WS rn nW W (0, 0, 0, 0, 0, 0) := by
  have hx : rn[0]? = some rn[0] := List.getElem?_eq_getElem hn
  refine ⟨⟨Int.le_refl _, by show (0 : Int) ≤ 2000; omega⟩, Or.inr ⟨⟨Int.le_refl _, by show (0 : Int) < rn.length; omega, Int.le_refl _, by show (0 : Int) ≤ 2560; omega, Int.le_refl _, by show (0 : Int) ≤ 1023; omega⟩, fun e he => ?_⟩, Int.le_refl _, fun _ => (hW0 _).1⟩
  have := (hrn.2 0 e he).1.1
  show (0 : Int) < e.1.1
  omega
theorem Expl_iff {rn : RUN} {nW : Nat} {W : Nat → Int} {M : Nat} : Expl rn nW W M ↔ ∀ k : Nat, k < nW → W k ∈ KT rn M (0, 0, 0, 0, 0, 0) := by
  have h := foll_knT (rn := rn) (g := zI 0) (ls := lsM M) 2000 1 FS0 (by omega) ⟨fun _ => by show (0 : Int) ≠ 255; omega, fun _ => rfl⟩
  have h2 : (fall9 rn (zI 0) (lsM M)).ks.map (fun e => e.1) = KT rn M (0, 0, 0, 0, 0, 0) := by
    have e1 : (2000 - (0 : Int)).toNat = 2000 := rfl
    have e2 : (0 : Int) + 1 = 1 := rfl
    show _ = knT rn (zI 0) (lsM M) (2000 - (0 : Int)).toNat ((0 : Int) + 1) 0 0 0
    rw [e1, e2]
    unfold fall9
    rw [h]
    exact List.nil_append _
  rw [← h2]
  unfold Expl
  constructor
  · intro q k hk
    obtain ⟨e, he, hv⟩ := q k hk
    exact List.mem_map.mpr ⟨e, he, hv⟩
  · intro q k hk
    obtain ⟨e, he, hv⟩ := List.mem_map.mp (q k hk)
    exact ⟨e, he, hv⟩
theorem tb_ge {M n q : Nat} (h : M < 2 ^ n) (hq : n ≤ q) : M.testBit q = false := Nat.testBit_lt_two_pow (Nat.lt_of_lt_of_le h (Nat.pow_le_pow_right (by omega) hq))
theorem pcn_le (x : Nat) : ∀ k : Nat, pcn x k ≤ k
  | 0 => Nat.le_refl _
  | k + 1 => by
    have := pcn_le x k
    have h2 : (x.testBit k).toNat ≤ 1 := by cases x.testBit k <;> decide
    show pcn x k + _ ≤ _
    omega
/-- the search's answer is the set that is better than all others -/
theorem wornA_best {rn : RUN} {nW : Nat} {W : Nat → Int} (hrn : RUNok rn) (hn : 0 < rn.length) (hW0 : ∀ k, 0 ≤ W k ∧ W k ≤ 65535) (hW : Winc nW W) :
    (wornA rn nW W = -2 ∧ ∀ M : Nat, M < 2 ^ rn.length → ¬ Expl rn nW W M) ∨ ∃ m : Nat, wornA rn nW W = m ∧ m < 2 ^ rn.length ∧ Expl rn nW W m ∧ ∀ M : Nat, M < 2 ^ rn.length → Expl rn nW W M → M ≠ m → Better m M := by
  have hws := WS_0 (nW := nW) hrn hn hW0
  have hl := hrn.1
  have hp0 : plN rn (0 : Int) = 0 := rfl
  have hexp := wlv_expl hrn hW 13 (0, 0, 0, 0, 0, 0) 0
  have hord := wlv_ord hrn hW 13 (0, 0, 0, 0, 0, 0) 0 hws (by rw [hp0]; decide) (by rw [hp0]; omega)
  have hsum : ∀ x ∈ wlv rn nW W 13 (0, 0, 0, 0, 0, 0) 0, x.2 < 2 ^ rn.length ∧ x.1 = pop x.2 ∧ Expl rn nW W x.2 := fun x hx => by
    obtain ⟨q1, q2, q3, q4⟩ := hexp x hws (by rw [hp0]; decide) (by rw [hp0]; omega) hx
    refine ⟨q1, ?_, Expl_iff.mpr (fun k hk => q4 x.2 (fun _ _ => rfl) k (by show (0 : Int) ≤ k; omega) hk)⟩
    have e1 : ((0, 0, 0, 0, 0, 0) : CRW).2.2.2.2.2 = 0 := rfl
    have e2 : pop 0 = 0 := rfl
    rw [e1, e2] at q3
    omega
  have hhas : ∀ M : Nat, Expl rn nW W M → ∃ x ∈ wlv rn nW W 13 (0, 0, 0, 0, 0, 0) 0, ∀ q, x.2.testBit q = true → M.testBit q = true := fun M hM => by
    obtain ⟨x, hx, h2⟩ := wlv_has hrn hW 13 (0, 0, 0, 0, 0, 0) 0 (M := M) hws (by rw [hp0]; omega) (by rw [hp0]; omega) (by rw [hp0]; decide) (fun k _ hk => Expl_iff.mp hM k hk)
    exact ⟨x, hx, fun q hq => h2 q (by rw [hp0]; omega) hq⟩
  unfold wornA
  rcases updW_fold _ (1000000, 0) hord with ⟨i1, i2⟩ | ⟨i1, i2, i3⟩
  · rw [i1]
    refine Or.inl ⟨if_pos rfl, fun M _ hM => ?_⟩
    obtain ⟨x, hx, -⟩ := hhas M hM
    have h1 := i2 x hx
    have h2 := (hsum x hx).2.1
    have h3 : pop x.2 ≤ 12 := pcn_le x.2 12
    have h4 : (1000000 : Int) ≤ x.1 := h1
    omega
  · generalize (wlv rn nW W 13 (0, 0, 0, 0, 0, 0) 0).foldl updW (1000000, 0) = r at i1 i2 i3
    obtain ⟨r1, r2, r3⟩ := hsum r i1
    have i2 : r.1 < 1000000 := i2
    rw [if_neg (by omega)]
    refine Or.inr ⟨r.2, rfl, r1, r3, fun M hM1 hM2 hne => ?_⟩
    obtain ⟨x, hx, hsub⟩ := hhas M hM2
    obtain ⟨x1, x2, x3⟩ := hsum x hx
    have c1 : pop x.2 ≤ pop M := (pcn_sub hsub 12).1
    have c2 := (pcn_sub hsub 12).2
    have hr : r.1 ≤ x.1 := by
      rcases i3 x hx with rfl | z | z <;> omega
    by_cases he : pop x.2 = pop M
    · have hxM : x.2 = M := by
        refine Nat.eq_of_testBit_eq (fun q => ?_)
        by_cases hq : q < 12
        · exact c2 he q hq
        · rw [tb_ge x1 (by omega), tb_ge hM1 (by omega)]
      rcases i3 x hx with z | z | ⟨z1, z2⟩
      · rw [← hxM, z] at hne
        exact absurd rfl hne
      · exact Or.inl (by omega)
      · rw [hxM] at z2
        exact Or.inr ⟨by omega, z2⟩
    · exact Or.inl (by omega)
