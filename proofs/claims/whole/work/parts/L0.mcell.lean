/-! made in the reference: the cell of where the men stand. -/
def cbt (p : Nat → Bool) : Nat → Nat
  | 0 => 0
  | k + 1 => cbt p k + (p k).toNat
theorem cbt_congr {p q : Nat → Bool} : ∀ k, (∀ i, i < k → p i = q i) → cbt p k = cbt q k
  | 0, _ => rfl
  | k + 1, h => by
    show cbt p k + (p k).toNat = cbt q k + (q k).toNat
    rw [cbt_congr k (fun i hi => h i (by omega)), h k (by omega)]
theorem cbt_le (p : Nat → Bool) : ∀ k, cbt p k ≤ k
  | 0 => Nat.le_refl 0
  | k + 1 => by
    have := cbt_le p k
    show cbt p k + (p k).toNat ≤ k + 1
    cases p k <;> simp <;> omega
theorem cbt_zero {p : Nat → Bool} : ∀ k, (∀ i, i < k → p i = false) → cbt p k = 0
  | 0, _ => rfl
  | k + 1, h => by
    show cbt p k + (p k).toNat = 0
    rw [cbt_zero k (fun i hi => h i (by omega)), h k (by omega)]
    rfl
theorem cbt_upd {p q : Nat → Bool} {m : Nat} (hp : p m = false) (hq : q m = true) (he : ∀ i, i ≠ m → q i = p i) : ∀ k, m < k → cbt q k = cbt p k + 1
  | 0, h => absurd h (Nat.not_lt_zero _)
  | k + 1, h => by
    show cbt q k + (q k).toNat = cbt p k + (p k).toNat + 1
    by_cases e : m = k
    · rw [← e, hp, hq, cbt_congr m (fun i hi => he i (by omega))]
      rfl
    · rw [he k (fun z => e z.symm), cbt_upd hp hq he k (by omega)]
      omega
theorem cbt_not {p q : Nat → Bool} : ∀ k, (∀ i, i < k → q i = !p i) → cbt q k + cbt p k = k
  | 0, _ => rfl
  | k + 1, h => by
    have ih := cbt_not k (fun i hi => h i (by omega))
    show cbt q k + (q k).toNat + (cbt p k + (p k).toNat) = k + 1
    rw [h k (by omega)]
    cases p k <;> simp <;> omega
theorem btc_cbt (v : Nat) : ∀ k, btc v k = cbt (fun i => v.testBit i) k
  | 0 => rfl
  | k + 1 => by
    show btc v k + (v.testBit k).toNat = cbt (fun i => v.testBit i) k + (v.testBit k).toNat
    rw [btc_cbt v k]
/-- the man i stands behind an event that was looked at, at the event l and the man m -/
def vis (nm : Nat) (S : Nat → Nat) (l m i : Nat) : Bool := decide (nm ≤ S i ∧ (S i < nm + l ∨ (S i = nm + l ∧ i < m)))
def CST (nm : Nat) (S : Nat → Nat) (l m : Nat) (s : Nat → Nat) (n : Nat) : Prop :=
  incr s n ∧ (∀ j, j < n → ∃ i, i < nm ∧ vis nm S l m i = true ∧ S i = nm + s j) ∧ (∀ i, i < nm → vis nm S l m i = true → ∃ j, j < n ∧ S i = nm + s j) ∧ n = cbt (vis nm S l m) nm
theorem CST.le {nm l m n : Nat} {S s : Nat → Nat} (h : CST nm S l m s n) : n ≤ nm := by
  rw [h.2.2.2]
  exact cbt_le _ _
theorem CST.congr {nm l m l2 m2 n : Nat} {S s : Nat → Nat} (h : CST nm S l m s n) (e : ∀ i, i < nm → vis nm S l m i = vis nm S l2 m2 i) : CST nm S l2 m2 s n := by
  obtain ⟨h1, h2, h3, h4⟩ := h
  refine ⟨h1, fun j hj => ?_, fun i hi hv => h3 i hi (by rw [e i hi]; exact hv), by rw [h4]; exact cbt_congr nm e⟩
  obtain ⟨i, a, b, c⟩ := h2 j hj
  exact ⟨i, a, by rw [← e i a]; exact b, c⟩
theorem CST.zero {nm : Nat} {S s : Nat → Nat} : CST nm S 0 0 s 0 := by
  have hv : ∀ i, vis nm S 0 0 i = false := fun i => by
    unfold vis
    exact decide_eq_false (by omega)
  refine ⟨fun i j _ hj => absurd hj (Nat.not_lt_zero _), fun j hj => absurd hj (Nat.not_lt_zero _), fun i _ h => ?_, (cbt_zero nm (fun i _ => hv i)).symm⟩
  rw [hv i] at h
  cases h
theorem CST.skip {nm l m n : Nat} {S s : Nat → Nat} (h : CST nm S l m s n) (hne : S m ≠ nm + l) : CST nm S l (m + 1) s n := h.congr (fun i _ => by
  unfold vis
  by_cases e : i = m
  · rw [e]
    exact decide_eq_decide.mpr (by omega)
  · exact decide_eq_decide.mpr (by omega))
theorem CST.row {nm l n : Nat} {S s : Nat → Nat} (h : CST nm S l nm s n) : CST nm S (l + 1) 0 s n := h.congr (fun i hi => by
  unfold vis
  exact decide_eq_decide.mpr (by omega))
theorem CST.hit {nm l m n : Nat} {S s : Nat → Nat} (h : CST nm S l m s n) (hinj : ∀ a b, a < nm → b < nm → S a = S b → a = b) (hm : m < nm) (heq : S m = nm + l) : CST nm S l (m + 1) (updN s n l) (n + 1) := by
  obtain ⟨h1, h2, h3, h4⟩ := h
  have hlow : ∀ j, j < n → s j < l := fun j hj => by
    obtain ⟨i, a, b, c⟩ := h2 j hj
    have b := of_decide_eq_true b
    by_cases g : S i = nm + l
    · have := hinj i m a hm (by omega)
      omega
    · omega
  have hvo : ∀ i, i < nm → i ≠ m → vis nm S l (m + 1) i = vis nm S l m i := fun i hi hne => by
    unfold vis
    exact decide_eq_decide.mpr (by omega)
  have hvo2 : ∀ i, i ≠ m → vis nm S l (m + 1) i = vis nm S l m i := fun i hne => by
    unfold vis
    exact decide_eq_decide.mpr (by omega)
  have hvm : vis nm S l (m + 1) m = true := by
    unfold vis
    exact decide_eq_true (by omega)
  have hvm0 : vis nm S l m m = false := by
    unfold vis
    exact decide_eq_false (by omega)
  refine ⟨fun i j hij hj => ?_, fun j hj => ?_, fun i hi hv => ?_, ?_⟩
  · by_cases g : j = n
    · rw [g, updN_s, updN_n (by omega)]
      exact hlow i (by omega)
    · rw [updN_n g, updN_n (by omega)]
      exact h1 i j hij (by omega)
  · by_cases g : j = n
    · rw [g, updN_s]
      exact ⟨m, hm, hvm, heq⟩
    · obtain ⟨i, a, b, c⟩ := h2 j (by omega)
      have hne : i ≠ m := fun q => by rw [q, hvm0] at b; cases b
      exact ⟨i, a, by rw [hvo2 i hne]; exact b, by rw [updN_n g]; exact c⟩
  · by_cases g : i = m
    · exact ⟨n, by omega, by rw [g, updN_s]; exact heq⟩
    · rw [hvo2 i g] at hv
      obtain ⟨j, a, b⟩ := h3 i hi hv
      exact ⟨j, by omega, by rw [updN_n (by omega)]; exact b⟩
  · rw [cbt_upd hvm0 hvm hvo2 nm hm, ← h4]
/-- what the mask and the set are, at the end -/
theorem CST.fin {nm ne stage n idle : Nat} {S s : Nat → Nat} (h : CST nm S ne 0 s n) (hnm : nm ≤ 4) (hS : stok nm stage S) (hst : stage ≤ ne) (hid : ∀ m, m < nm → S m < nm → S m = m) (hi : idle < 2 ^ nm) (hb : ∀ j, j < nm → idle.testBit j = decide (S j < nm)) : Rep nm S idle s n := by
  obtain ⟨h1, h2, h3, h4⟩ := h
  have hv : ∀ i, i < nm → vis nm S ne 0 i = !idle.testBit i := fun i hin => by
    have := hS.1 i hin
    rw [hb i hin]
    unfold vis
    by_cases g : S i < nm
    · rw [decide_eq_true g]
      exact decide_eq_false (by omega)
    · rw [decide_eq_false g]
      exact decide_eq_true (by omega)
  refine ⟨⟨hi, ?_⟩, fun m hm => ?_, fun j hj => ?_, h1⟩
  · rw [bits_eq hi hnm, btc_cbt, h4]
    exact cbt_not nm hv
  · by_cases g : S m < nm
    · exact Or.inl ⟨hid m hm g, by rw [hb m hm]; exact decide_eq_true g⟩
    · have hf : idle.testBit m = false := by rw [hb m hm]; exact decide_eq_false g
      exact Or.inr ⟨hf, h3 m hm (by rw [hv m hm, hf]; rfl)⟩
  · obtain ⟨i, a, _, c⟩ := h2 j hj
    exact ⟨i, a, c⟩
def LAt (I : II) (nm : Nat) (S : Nat → Nat) : Prop := ∀ m, m < nm → I 171 0 m = zI (if S m < nm then -1 else (S m : Int) - nm)
theorem LAt.fr {I I' : II} {P : Nat → Nat → Bool} {nm : Nat} {S : Nat → Nat} (h : LAt I nm S) (hf : FrI P I I') (hP : P 171 0 = false) : LAt I' nm S := fun m hm => by rw [hf _ _ hP]; exact h m hm
section MCELL
variable {Γ : AMG} {Q : QQ} {d : Nat} {I : II} {Lg : LJ} {R : RR} {gc : Nat → Nat}
set_option maxRecDepth 100000 in
theorem s_cellByMen {nm ne stage : Nat} {x1 : Int32} {S : Nat → Nat} (hnm : nm ≤ 4) (hne : ne ≤ 24) (hst : stage ≤ ne) (hmen : I 60 0 0 = zI nm) (hev : I 72 0 0 = zI ne) (hS : stok nm stage S) (hid : ∀ m, m < nm → S m < nm → S m = m) (hla : LAt I nm S) (hb : BinAt I) (ho : OffAt I nm) (hx1 : x1 = zI stage)
    (h : ∀ (I' : II) (idle : Nat) (s : Nat → Nat) (k : Nat), FrI (V0 [170]) I I' → Rep nm S idle s k → Q (some (vI (zI ((20475 * stage + (off nm idle + rks s k) : Nat) : Int)))) I' Lg R (GM gc)) :
    am_Sp Γ (d + 2) 0 0 mX12_cellByMen [vR 12 0, vI x1] I Lg R (GM gc) Q := by
  have val : ∀ m, m < nm → (if S m < nm then (-1 : Int) else (S m : Int) - nm) ≤ 24 ∧ -1 ≤ (if S m < nm then (-1 : Int) else (S m : Int) - nm) := fun m hm => by
    have := hS.1 m hm
    split <;> omega
  -- who is idle
  have idl : ∀ (q m idle n : Nat) (s : Nat → Nat) (x2 x3 x4 : Int32) (l5 : Option AV) (I1 : II), m + q = nm → x3 = zI n → x4 = zI m → x2 = zI idle → idle < 2 ^ m → (∀ j, j < m → idle.testBit j = decide (S j < nm)) → FrI (V0 [170]) I I1 → RA I1 170 n (fun j => (s j : Int)) → CST nm S ne 0 s n →
      am_J Γ mX12_cellByMen Q (d + 2) 0 0 69 [some (vR 12 0), some (vI x1), some (vI x2), some (vI x3), some (vI x4), l5] [] I1 Lg R (GM gc) := by
    intro q
    induction q with
    | zero =>
      intro m idle n s x2 x3 x4 l5 I1 hq hx3 hx4 hx2 hi hbt f1 hs hc
      have em : m = nm := by omega
      subst em
      have h4t : x4.toInt = m := by rw [hx4, zI_toInt (by omega) (by omega)]
      have hm1 : I1 60 0 0 = zI m := by rw [f1 60 _ rfl]; exact hmen
      have hle := hc.le
      have hr := hc.fin hnm hS hst hid hi hbt
      refine am_goN vX12_cellByMen 4 ?_
      refine And.intro (fun _ => ?_) (fun z => ?_)
      · refine am_goN vX12_cellByMen 20 ?_
        refine s_cellA (nm := m) (stage := stage) (idle := idle) (k := n) (s := s) hnm (hb.fr f1 rfl) (ho.fr f1 rfl) hi (by omega) hs (fun j hj => ?_) hx1 hx2 hx3 rfl rfl ?_
        · have := hr.lt hS hj
          omega
        · exact h I1 idle s n f1 hr
      · rw [h4t, hm1, zI_toInt (by omega) (by omega)] at z
        omega
    | succ q ih =>
      intro m idle n s x2 x3 x4 l5 I1 hq hx3 hx4 hx2 hi hbt f1 hs hc
      have hm : m < nm := by omega
      have h4t : x4.toInt = m := by rw [hx4, zI_toInt (by omega) (by omega)]
      have hm1 : I1 60 0 0 = zI nm := by rw [f1 60 _ rfl]; exact hmen
      have hv : I1 171 0 m = zI (if S m < nm then -1 else (S m : Int) - nm) := by rw [f1 171 _ rfl]; exact hla m hm
      have hvr := val m hm
      refine am_goN vX12_cellByMen 4 ?_
      refine And.intro (fun z => ?_) (fun _ => ?_)
      · rw [h4t, hm1, zI_toInt (by omega) (by omega)] at z
        omega
      refine am_goN vX12_cellByMen 6 ?_
      refine And.intro ⟨by omega, by omega⟩ ?_
      rw [h4t, Int.toNat_natCast, hv]
      refine And.intro (fun z => ?_) (fun z => ?_)
      · rw [zI_toInt (by omega) (by omega), zI_toInt (by omega) (by omega)] at z
        refine am_goN vX12_cellByMen 5 ?_
        refine fun y4 ey4 => ?_
        refine ih (m + 1) idle n s x2 x3 y4 l5 I1 (by omega) hx3 (by rw [ey4, hx4, zI_add]; congr 1) hx2 (Nat.lt_of_lt_of_le hi (Nat.pow_le_pow_right (by omega) (by omega))) (fun j hj => ?_) f1 hs hc
        by_cases g : j = m
        · have hg : ¬ S m < nm := fun q => z (if_pos q)
          rw [g, decide_eq_false hg]
          exact Nat.testBit_lt_two_pow hi
        · exact hbt j (by omega)
      · rw [zI_toInt (by omega) (by omega), zI_toInt (by omega) (by omega)] at z
        have hg : S m < nm := by
          by_cases g : S m < nm
          · exact g
          · rw [if_neg g] at z
            omega
        refine am_goN vX12_cellByMen 10 ?_
        refine fun y2 ey2 y4 ey4 => ?_
        have hor := mask_or (ch := idle) (pl := m) (u := 1) (Or.inr rfl) (by omega) hi
        rw [if_pos rfl] at hor
        have e2 : y2 = zI ((idle + 2 ^ m : Nat) : Int) := by
          rw [← hor, ← hx2, ← hx4]
          exact ey2
        have h2p : 2 ^ (m + 1) = 2 ^ m * 2 := Nat.pow_succ 2 m
        refine ih (m + 1) (idle + 2 ^ m) n s y2 x3 y4 l5 I1 (by omega) hx3 (by rw [ey4, hx4, zI_add]; congr 1) e2 (by omega) (fun j hj => ?_) f1 hs hc
        rw [Nat.add_comm]
        by_cases g : j = m
        · rw [g, Nat.testBit_two_pow_add_eq, Nat.testBit_lt_two_pow hi, decide_eq_true hg]
          rfl
        · rw [Nat.testBit_two_pow_add_gt (by omega)]
          exact hbt j (by omega)
  -- the set
  have outer : ∀ (q l n : Nat) (s : Nat → Nat) (x2 x3 x4 : Int32) (l5 : Option AV) (I1 : II), l + q = ne → x2 = zI 0 → x3 = zI n → x4 = zI l → FrI (V0 [170]) I I1 → RA I1 170 n (fun j => (s j : Int)) → CST nm S l 0 s n →
      am_J Γ mX12_cellByMen Q (d + 2) 0 0 7 [some (vR 12 0), some (vI x1), some (vI x2), some (vI x3), some (vI x4), l5] [] I1 Lg R (GM gc) := by
    intro q
    induction q with
    | zero =>
      intro l n s x2 x3 x4 l5 I1 hq hx2 hx3 hx4 f1 hs hc
      have el : l = ne := by omega
      subst el
      have h4t : x4.toInt = l := by rw [hx4, zI_toInt (by omega) (by omega)]
      have he1 : I1 72 0 0 = zI l := by rw [f1 72 _ rfl]; exact hev
      refine am_goN vX12_cellByMen 4 ?_
      refine And.intro (fun _ => ?_) (fun z => ?_)
      · refine am_goN vX12_cellByMen 5 ?_
        refine fun y4 ey4 => ?_
        exact idl nm 0 0 n s x2 x3 y4 l5 I1 (by omega) hx3 ey4 hx2 (by decide) (fun j hj => absurd hj (Nat.not_lt_zero _)) f1 hs hc
      · rw [h4t, he1, zI_toInt (by omega) (by omega)] at z
        omega
    | succ q ih =>
      intro l n s x2 x3 x4 l5 I1 hq hx2 hx3 hx4 f1 hs hc
      have h4t : x4.toInt = l := by rw [hx4, zI_toInt (by omega) (by omega)]
      have he1 : I1 72 0 0 = zI ne := by rw [f1 72 _ rfl]; exact hev
      have inner : ∀ (q2 m n : Nat) (s : Nat → Nat) (x3 x5 : Int32) (I1 : II), m + q2 = nm → x3 = zI n → x5 = zI m → FrI (V0 [170]) I I1 → RA I1 170 n (fun j => (s j : Int)) → CST nm S l m s n →
          am_J Γ mX12_cellByMen Q (d + 2) 0 0 19 [some (vR 12 0), some (vI x1), some (vI x2), some (vI x3), some (vI x4), some (vI x5)] [] I1 Lg R (GM gc) := by
        intro q2
        induction q2 with
        | zero =>
          intro m n s x3 x5 I1 hq2 hx3 hx5 f1 hs hc
          have em : m = nm := by omega
          subst em
          have h5t : x5.toInt = m := by rw [hx5, zI_toInt (by omega) (by omega)]
          have hm1 : I1 60 0 0 = zI m := by rw [f1 60 _ rfl]; exact hmen
          refine am_goN vX12_cellByMen 4 ?_
          refine And.intro (fun _ => ?_) (fun z => ?_)
          · refine am_goN vX12_cellByMen 5 ?_
            refine fun y4 ey4 => ?_
            exact ih (l + 1) n s x2 x3 y4 _ I1 (by omega) hx2 hx3 (by rw [ey4, hx4, zI_add]; congr 1) f1 hs hc.row
          · rw [h5t, hm1, zI_toInt (by omega) (by omega)] at z
            omega
        | succ q2 ih2 =>
          intro m n s x3 x5 I1 hq2 hx3 hx5 f1 hs hc
          have hm : m < nm := by omega
          have hle := hc.le
          have h3t : x3.toInt = n := by rw [hx3, zI_toInt (by omega) (by omega)]
          have h5t : x5.toInt = m := by rw [hx5, zI_toInt (by omega) (by omega)]
          have hm1 : I1 60 0 0 = zI nm := by rw [f1 60 _ rfl]; exact hmen
          have hv : I1 171 0 m = zI (if S m < nm then -1 else (S m : Int) - nm) := by rw [f1 171 _ rfl]; exact hla m hm
          have hvr := val m hm
          refine am_goN vX12_cellByMen 4 ?_
          refine And.intro (fun z => ?_) (fun _ => ?_)
          · rw [h5t, hm1, zI_toInt (by omega) (by omega)] at z
            omega
          refine am_goN vX12_cellByMen 6 ?_
          refine And.intro ⟨by omega, by omega⟩ ?_
          rw [h5t, Int.toNat_natCast, hv]
          refine And.intro (fun z => ?_) (fun z => ?_)
          · rw [zI_toInt (by omega) (by omega), h4t] at z
            have hg : S m = nm + l := by
              by_cases g : S m < nm
              · rw [if_pos g] at z
                omega
              · rw [if_neg g] at z
                omega
            refine am_goN vX12_cellByMen 20 ?_
            refine And.intro ⟨by omega, by omega⟩ ?_
            refine fun y ey I2 e2 => ?_
            refine fun y3 ey3 y5 ey5 => ?_
            rw [h3t, Int.toNat_natCast] at e2
            refine ih2 (m + 1) (n + 1) (updN s n l) y3 y5 I2 (by omega) (by rw [ey3, hx3, zI_add]; congr 1) (by rw [ey5, hx5, zI_add]; congr 1) (by rw [e2]; exact f1.up rfl) (fun j hj => ?_) (hc.hit hS.2 hm hg)
            show I2 170 0 j = zI ((updN s n l j : Nat) : Int)
            rw [e2]
            by_cases g : j = n
            · rw [g, up3_s, updN_s, ey, hx4]
            · rw [up3_j _ g, updN_n g]
              exact hs j (by omega)
          · rw [zI_toInt (by omega) (by omega), h4t] at z
            have hg : S m ≠ nm + l := fun g => z (by rw [if_neg (by omega)]; omega)
            refine am_goN vX12_cellByMen 5 ?_
            refine fun y5 ey5 => ?_
            exact ih2 (m + 1) n s x3 y5 I1 (by omega) hx3 (by rw [ey5, hx5, zI_add]; congr 1) f1 hs (hc.skip hg)
      refine am_goN vX12_cellByMen 4 ?_
      refine And.intro (fun z => ?_) (fun _ => ?_)
      · rw [h4t, he1, zI_toInt (by omega) (by omega)] at z
        omega
      refine am_goN vX12_cellByMen 5 ?_
      refine fun y5 ey5 => ?_
      exact inner nm 0 n s x3 y5 I1 (by omega) hx3 ey5 f1 hs hc
  refine am_runN vX12_cellByMen 10 _ rfl rfl rfl rfl ?_
  refine fun x2 ex2 x3 ex3 x4 ex4 => ?_
  exact outer ne 0 0 (fun i => i) x2 x3 x4 _ I (by omega) ex2 ex3 ex4 FrI.rf (fun j hj => absurd hj (Nat.not_lt_zero _)) CST.zero
end MCELL
