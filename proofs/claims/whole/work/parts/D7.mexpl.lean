/-! Worn steps, the reference: bits, what explains. -/
theorem gb_nat {M p : Nat} (hM : M < 4096) (hp : p < 12) : gb (zI (M : Int)) p = (M.testBit p).toNat := by
  unfold gb
  rw [zI_nI, pk_tn (by omega), Nat.testBit_eq_decide_div_mod_eq]
  have : M / 2 ^ p % 2 = 0 ∨ M / 2 ^ p % 2 = 1 := by omega
  rcases this with q | q <;> rw [q] <;> decide
set_option maxRecDepth 100000 in
theorem bitsOf_loop {Γ : AMG} {Q : QQ} {d M : Nat} {x0 : Int32} {I : II} {Lg : LJ} {R : RR} {G : GG} (hM : M < 4096) (hx0 : x0 = zI (M : Int)) (h : Q (some (vI (zI (pop M : Nat)))) I Lg R G) :
    ∀ (m k : Nat) (x1 x2 : Int32), k + m = 12 → x2 = zI k → x1 = zI (pcn M k : Nat) → am_J Γ mX12_bitsOf Q d 0 0 4 [some (vI x0), some (vI x1), some (vI x2)] [] I Lg R G := by
  intro m
  induction m with
  | zero =>
    intro k x1 x2 hm hx2 hx1
    refine am_goN vX12_bitsOf 3 ?_
    refine And.intro (fun _ => ?_) (fun c => ?_)
    · refine am_goN vX12_bitsOf 3 ?_
      rw [hx1, show k = 12 by omega]
      exact h
    · rw [hx2, zI_toInt (by omega) (by omega), zI_toInt (by omega) (by omega)] at c
      omega
  | succ m ih =>
    intro k x1 x2 hm hx2 hx1
    refine am_goN vX12_bitsOf 3 ?_
    refine And.intro (fun c => ?_) (fun _ => ?_)
    · rw [hx2, zI_toInt (by omega) (by omega), zI_toInt (by omega) (by omega)] at c
      omega
    refine am_goN vX12_bitsOf 10 ?_
    refine fun y1 ey1 y2 ey2 => ?_
    refine ih (k + 1) y1 y2 (by omega) (by rw [ey2, hx2, zI_add]; congr 1) ?_
    rw [ey1, hx1, hx0, hx2, gb_s (by omega), gb_nat hM (by omega), zI_add]
    rfl
set_option maxRecDepth 100000 in
theorem s_bitsOf {Γ : AMG} {Q : QQ} {d M : Nat} {x0 : Int32} {I : II} {Lg : LJ} {R : RR} {G : GG} (hM : M < 4096) (hx0 : x0 = zI (M : Int)) (h : Q (some (vI (zI (pop M : Nat)))) I Lg R G) : am_Sp Γ d 0 0 mX12_bitsOf [vI x0] I Lg R G Q := by
  refine am_runN vX12_bitsOf 4 _ rfl rfl rfl rfl ?_
  refine fun x1 ex1 x2 ex2 => ?_
  exact bitsOf_loop hM hx0 h 12 0 x1 x2 (by omega) ex2 ex1
set_option maxRecDepth 100000 in
theorem explains_in {Γ : AMG} {Q : QQ} {d k nW : Nat} {W : Nat → Int} {ks : KS} {x1 : Int32} {I : II} {Lg : LJ} {R : RR} {gc : Nat → Nat} (hk10 : k < nW) (hnW : nW ≤ 10) (hwd : ∀ k, k < nW → I 175 0 k = zI (W k)) (hW : ∀ k, 0 ≤ W k ∧ W k ≤ 65535) (hk : I 55 0 0 = zI ks.length) (hk12 : ks.length ≤ 12) (hK : KAt I 136 137 138 0 ks) (hks : ∀ e ∈ ks, 0 ≤ e.1 ∧ e.1 ≤ 2000) (hx1 : x1 = zI k)
    (hy : ∀ (x2 : Int32) (l3 : Option AV), x2 = zI 1 → (∃ e ∈ ks, e.1 = W k) → am_J Γ mX12_explains Q d 0 0 45 [some (vR 12 0), some (vI x1), some (vI x2), l3] [] I Lg R (GM gc))
    (hn : ∀ (x2 : Int32) (l3 : Option AV), x2 = zI 0 → (¬ ∃ e ∈ ks, e.1 = W k) → am_J Γ mX12_explains Q d 0 0 45 [some (vR 12 0), some (vI x1), some (vI x2), l3] [] I Lg R (GM gc)) :
    ∀ (m i : Nat) (x2 x3 : Int32), i + m = ks.length → x3 = zI i → ((x2 = zI 1 ∧ ∃ e ∈ ks, e.1 = W k) ∨ (x2 = zI 0 ∧ ∀ j : Nat, j < i → ∀ e, ks[j]? = some e → e.1 ≠ W k)) → am_J Γ mX12_explains Q d 0 0 14 [some (vR 12 0), some (vI x1), some (vI x2), some (vI x3)] [] I Lg R (GM gc) := by
  have hkt : (I 55 0 0).toInt = ks.length := by rw [hk, zI_toInt (by omega) (by omega)]
  have h1 : x1.toInt = k := by rw [hx1, zI_toInt (by omega) (by omega)]
  have h1n : x1.toInt.toNat = k := by omega
  intro m
  induction m with
  | zero =>
    intro i x2 x3 hm hx3 hv
    refine am_goN vX12_explains 4 ?_
    refine And.intro (fun _ => ?_) (fun c => ?_)
    · rcases hv with ⟨q1, q2⟩ | ⟨q1, q2⟩
      · exact hy x2 _ q1 q2
      · refine hn x2 _ q1 ?_
        rintro ⟨e, he, hv⟩
        obtain ⟨j, hj⟩ := List.getElem?_of_mem he
        have := (List.getElem?_eq_some_iff.mp hj).1
        exact q2 j (by omega) e hj hv
    · rw [hkt, hx3, zI_toInt (by omega) (by omega)] at c
      omega
  | succ m ih =>
    intro i x2 x3 hm hx3 hv
    have h3 : x3.toInt = i := by rw [hx3, zI_toInt (by omega) (by omega)]
    have h3n : x3.toInt.toNat = i := by omega
    have he : ks[i]? = some ks[i] := List.getElem?_eq_getElem (by omega)
    generalize ks[i] = e at he
    have hem := List.mem_of_getElem? he
    have hek := hks e hem
    have hWk := hW k
    refine am_goN vX12_explains 4 ?_
    refine And.intro (fun c => ?_) (fun _ => ?_)
    · rw [hkt, h3] at c
      omega
    have k39 : ∀ y2 : Int32, ((y2 = zI 1 ∧ ∃ e ∈ ks, e.1 = W k) ∨ (y2 = zI 0 ∧ ∀ j : Nat, j < i + 1 → ∀ e, ks[j]? = some e → e.1 ≠ W k)) → am_J Γ mX12_explains Q d 0 0 39 [some (vR 12 0), some (vI x1), some (vI y2), some (vI x3)] [] I Lg R (GM gc) := fun y2 hv2 => by
      refine am_goN vX12_explains 2 ?_
      refine fun y3 ey3 => ?_
      exact ih (i + 1) y2 y3 (by omega) (by rw [ey3, hx3, zI_add]; congr 1) hv2
    have t1 : (I 136 0 i).toInt = e.1 := by rw [(hK i e he).1, zI_toInt (by omega) (by omega)]
    have t2 : (I 175 0 k).toInt = W k := by rw [hwd k hk10, zI_toInt (by omega) (by omega)]
    refine am_goN vX12_explains 9 ?_
    refine And.intro ⟨by omega, by omega⟩ ?_
    refine And.intro ⟨by omega, by omega⟩ ?_
    rw [h3n, h1n]
    refine And.intro (fun c => ?_) (fun c => ?_)
    · rw [t1, t2] at c
      refine k39 x2 ?_
      rcases hv with q | ⟨q1, q2⟩
      · exact Or.inl q
      · refine Or.inr ⟨q1, fun j hj e' he' => ?_⟩
        by_cases z : j = i
        · subst z
          rw [he] at he'
          cases he'
          exact c
        · exact q2 j (by omega) e' he'
    · rw [t1, t2] at c
      refine am_goN vX12_explains 2 ?_
      refine fun y2 ey2 => ?_
      exact k39 y2 (Or.inl ⟨ey2, e, hem, c⟩)
set_option maxRecDepth 100000 in
theorem explains_out {Γ : AMG} {Q : QQ} {d nW : Nat} {W : Nat → Int} {ks : KS} {I : II} {Lg : LJ} {R : RR} {gc : Nat → Nat} (hnW : nW ≤ 10) (hw : I 80 0 0 = zI nW) (hwd : ∀ k, k < nW → I 175 0 k = zI (W k)) (hW : ∀ k, 0 ≤ W k ∧ W k ≤ 65535) (hk : I 55 0 0 = zI ks.length) (hk12 : ks.length ≤ 12) (hK : KAt I 136 137 138 0 ks) (hks : ∀ e ∈ ks, 0 ≤ e.1 ∧ e.1 ≤ 2000)
    (hy : (∀ k : Nat, k < nW → ∃ e ∈ ks, e.1 = W k) → Q (some (vI (zI 1))) I Lg R (GM gc)) (hn : (¬ ∀ k : Nat, k < nW → ∃ e ∈ ks, e.1 = W k) → Q (some (vI (zI 0))) I Lg R (GM gc)) :
    ∀ (m k : Nat) (x1 : Int32) (l2 l3 : Option AV), k + m = nW → x1 = zI k → (∀ j : Nat, j < k → ∃ e ∈ ks, e.1 = W j) → am_J Γ mX12_explains Q d 0 0 2 [some (vR 12 0), some (vI x1), l2, l3] [] I Lg R (GM gc) := by
  have hwt : (I 80 0 0).toInt = nW := by rw [hw, zI_toInt (by omega) (by omega)]
  intro m
  induction m with
  | zero =>
    intro k x1 l2 l3 hm hx1 hall
    refine am_J.er [true, true, false, false] ?_
    refine am_goN vX12_explains 4 ?_
    refine And.intro (fun _ => ?_) (fun c => ?_)
    · refine am_goN vX12_explains 3 ?_
      exact ⟨Or.inr rfl, hy (fun j hj => hall j (by omega))⟩
    · rw [hwt, hx1, zI_toInt (by omega) (by omega)] at c
      omega
  | succ m ih =>
    intro k x1 l2 l3 hm hx1 hall
    refine am_J.er [true, true, false, false] ?_
    refine am_goN vX12_explains 4 ?_
    refine And.intro (fun c => ?_) (fun _ => ?_)
    · rw [hwt, hx1, zI_toInt (by omega) (by omega)] at c
      omega
    refine am_goN vX12_explains 4 ?_
    refine fun x2 ex2 x3 ex3 => ?_
    refine explains_in (k := k) (by omega) hnW hwd hW hk hk12 hK hks hx1 (fun y2 l3 hy2 hex => ?_) (fun y2 l3 hy2 hno => ?_) ks.length 0 x2 x3 (by omega) ex3 (Or.inr ⟨ex2, fun j hj => absurd hj (by omega)⟩)
    · refine am_J.er [true, true, true, false] ?_
      refine am_goN vX12_explains 2 ?_
      refine And.intro (fun _ => ?_) (fun c => ?_)
      · refine am_goN vX12_explains 2 ?_
        refine fun y1 ey1 => ?_
        refine ih (k + 1) y1 _ _ (by omega) (by rw [ey1, hx1, zI_add]; congr 1) (fun j hj => ?_)
        by_cases z : j = k
        · subst z; exact hex
        · exact hall j (by omega)
      · rw [hy2, zI_toInt (by omega) (by omega)] at c
        omega
    · refine am_J.er [true, true, true, false] ?_
      refine am_goN vX12_explains 2 ?_
      refine And.intro (fun c => ?_) (fun _ => ?_)
      · rw [hy2] at c
        exact absurd rfl c
      · refine am_goN vX12_explains 3 ?_
        exact ⟨Or.inl rfl, hn (fun z => hno (z k (by omega)))⟩
set_option maxRecDepth 100000 in
theorem s_explains {Γ : AMG} {Q : QQ} {d nW : Nat} {W : Nat → Int} {ks : KS} {I : II} {Lg : LJ} {R : RR} {gc : Nat → Nat} (hnW : nW ≤ 10) (hw : I 80 0 0 = zI nW) (hwd : ∀ k, k < nW → I 175 0 k = zI (W k)) (hW : ∀ k, 0 ≤ W k ∧ W k ≤ 65535) (hk : I 55 0 0 = zI ks.length) (hk12 : ks.length ≤ 12) (hK : KAt I 136 137 138 0 ks) (hks : ∀ e ∈ ks, 0 ≤ e.1 ∧ e.1 ≤ 2000)
    (hy : (∀ k : Nat, k < nW → ∃ e ∈ ks, e.1 = W k) → Q (some (vI (zI 1))) I Lg R (GM gc)) (hn : (¬ ∀ k : Nat, k < nW → ∃ e ∈ ks, e.1 = W k) → Q (some (vI (zI 0))) I Lg R (GM gc)) :
    am_Sp Γ d 0 0 mX12_explains [vR 12 0] I Lg R (GM gc) Q := by
  refine am_runN vX12_explains 2 _ rfl rfl rfl rfl ?_
  refine fun x1 ex1 => ?_
  exact explains_out hnW hw hwd hW hk hk12 hK hks hy hn nW 0 x1 _ _ (by omega) ex1 (fun j hj => absurd hj (by omega))
