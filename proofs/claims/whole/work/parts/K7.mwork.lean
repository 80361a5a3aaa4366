/-! made in the reference: one cell of its table. -/
def dn (wo j : Nat) : Nat := if wo < j then j - 1 else j
theorem dn_s {wo j : Nat} (h : j ≠ wo) : dn wo (j + 1) = dn wo j + 1 := by
  unfold dn
  by_cases g : wo < j
  · rw [if_pos g, if_pos (by omega)]; omega
  · rw [if_neg g, if_neg (by omega)]
theorem dn_e {j : Nat} : dn j (j + 1) = dn j j := by
  unfold dn
  rw [if_pos (by omega), if_neg (by omega)]
  omega
theorem dn_le {wo j : Nat} : dn wo j ≤ j := by
  unfold dn
  split <;> omega
theorem del_dn {s : Nat → Nat} {wo j : Nat} (h : j ≠ wo) : del s wo (dn wo j) = s j := by
  unfold dn del
  by_cases g : wo < j
  · rw [if_pos g, if_neg (by omega), show j - 1 + 1 = j by omega]
  · rw [if_neg g, if_pos (by omega)]
theorem incr.on {s : Nat → Nat} {k j e : Nat} (h : incr s k) (hlt : ∀ i, i < k → s i < e) (hj : j < k) : incr (updN (del s j) (k - 1) e) k ∧ ∀ i, i < k → updN (del s j) (k - 1) e i < e + 1 := by
  have hd : ∀ i, i < k - 1 → ∃ i2, i2 < k ∧ del s j i = s i2 := fun i hi => by
    unfold del
    by_cases g : i < j
    · exact ⟨i, by omega, if_pos g⟩
    · exact ⟨i + 1, by omega, if_neg g⟩
  refine ⟨fun i i2 hi hi2 => ?_, fun i hi => ?_⟩
  · by_cases g : i2 = k - 1
    · rw [g, updN_s, updN_n (by omega)]
      obtain ⟨i3, c1, c3⟩ := hd i (by omega)
      rw [c3]
      exact hlt i3 c1
    · rw [updN_n g, updN_n (by omega)]
      unfold del
      by_cases a1 : i < j <;> by_cases a2 : i2 < j
      · rw [if_pos a1, if_pos a2]; exact h i i2 hi (by omega)
      · rw [if_pos a1, if_neg a2]; exact h i (i2 + 1) (by omega) (by omega)
      · omega
      · rw [if_neg a1, if_neg a2]; exact h (i + 1) (i2 + 1) (by omega) (by omega)
  · by_cases g : i = k - 1
    · rw [g, updN_s]; omega
    · rw [updN_n g]
      obtain ⟨i3, c1, c3⟩ := hd i (by omega)
      have := hlt i3 c1
      omega
theorem incr.go {s : Nat → Nat} {k e : Nat} (h : incr s k) (hlt : ∀ i, i < k → s i < e) : incr (updN s k e) (k + 1) ∧ ∀ i, i < k + 1 → updN s k e i < e + 1 := by
  refine ⟨fun i i2 hi hi2 => ?_, fun i hi => ?_⟩
  · by_cases g : i2 = k
    · rw [g, updN_s, updN_n (by omega)]
      exact hlt i (by omega)
    · rw [updN_n g, updN_n (by omega)]
      exact h i i2 hi (by omega)
  · by_cases g : i = k
    · rw [g, updN_s]; omega
    · rw [updN_n g]
      have := hlt i (by omega)
      omega
/-- a set's cell lies in its stage -/
theorem cell_in {nm idle k e : Nat} {s : Nat → Nat} (hs : incr s k) (hlt : ∀ i, i < k → s i < e) (hk : k + bits idle = nm) (hi : idle < 2 ^ nm) (he : e ≤ 24) (hn : nm ≤ 4) : off nm idle + rks s k < 20475 := by
  have h1 := rks_lt k e hs hlt
  have h2 := bc_mono k he
  have h3 := off_mono (nm := nm) (show idle + 1 ≤ 2 ^ nm from hi)
  have h4 := off_all hn
  rw [off_next, show nm - bits idle = k by omega] at h3
  omega
theorem mask_go : ∀ i : Nat, i < 16 → ∀ m : Nat, m < 4 → i.testBit m = true → zI (i : Int) &&& ((zI 1 <<< (zI (m : Int) &&& 31)) ^^^ zI (-1)) = zI ((i ^^^ 2 ^ m : Nat) : Int) := by decide +kernel
theorem mask_bits {i m nm : Nat} (hi : i < 2 ^ nm) (hm : m < nm) (hb : i.testBit m = true) : i ^^^ 2 ^ m < 2 ^ nm ∧ (i ^^^ 2 ^ m).testBit m = false ∧ ∀ j, j ≠ m → (i ^^^ 2 ^ m).testBit j = i.testBit j := by
  refine ⟨Nat.xor_lt_two_pow hi (Nat.pow_lt_pow_right (by omega) hm), ?_, fun j hj => ?_⟩
  · rw [Nat.testBit_xor, hb, Nat.testBit_two_pow_self]
    rfl
  · rw [Nat.testBit_xor, Nat.testBit_two_pow_of_ne (fun q => hj q.symm)]
    exact Bool.xor_false _
/-- the best so far, of those in P -/
def BST (nm ne : Nat) (w : Nat → Int) (my : Nat → Nat → Bool) (e idle : Nat) (s : Nat → Nat) (k : Nat) (P : (Nat → Nat) → Nat → Prop) (x : Int32) : Prop :=
  ∀ S, stok nm e S → Rep nm S idle s k → ∃ b : Int, x = zI b ∧ 0 ≤ b ∧ b ≤ mV nm w my (ne - e) e S ∧ mV nm w my (ne - (e + 1)) (e + 1) S ≤ b ∧ ∀ m, m < nm → P S m → my (S m) e = true → w e + mV nm w my (ne - (e + 1)) (e + 1) (upS S m (nm + e)) ≤ b
section BSTS
variable {nm ne : Nat} {w : Nat → Int} {my : Nat → Nat → Bool} {e idle k : Nat} {s : Nat → Nat} {P P2 : (Nat → Nat) → Nat → Prop} {x y : Int32}
theorem mV_top (hp : mpok nm ne w my) (f : Nat) (hf : f ≤ 24) (S : Nat → Nat) : mV nm w my f e S ≤ 239976 := by
  have h1 := mV_le (nm := nm) (my := my) (B := 9999) (by omega) (fun e => (hp.2.1 e).2) f e S
  omega
theorem BST.init (hp : mpok nm ne w my) (he : e < ne) (h : ∀ S, stok nm e S → Rep nm S idle s k → x = zI (mV nm w my (ne - (e + 1)) (e + 1) S)) : BST nm ne w my e idle s k (fun _ _ => False) x := fun S hs hr => by
  refine ⟨_, h S hs hr, mV_nn _ _ _, ?_, Int.le_refl _, fun m _ hf => hf.elim⟩
  rw [show ne - e = ne - (e + 1) + 1 by omega]
  exact mV_skip
theorem BST.ext (h : BST nm ne w my e idle s k P x) (hP : ∀ S m, stok nm e S → Rep nm S idle s k → m < nm → P2 S m → my (S m) e = true → P S m) : BST nm ne w my e idle s k P2 x := fun S hs hr => by
  obtain ⟨b, h1, h2, h3, h4, h5⟩ := h S hs hr
  exact ⟨b, h1, h2, h3, h4, fun m hm hp hy => h5 m hm (hP S m hs hr hm hp hy) hy⟩
theorem BST.cmp (hp : mpok nm ne w my) (he : e < ne) (h : BST nm ne w my e idle s k P x) (hy : ∀ S, stok nm e S → Rep nm S idle s k → ∃ m0, m0 < nm ∧ my (S m0) e = true ∧ y = zI (w e + mV nm w my (ne - (e + 1)) (e + 1) (upS S m0 (nm + e))) ∧ ∀ m, m < nm → P2 S m → P S m ∨ m = m0) :
    (y.toInt ≤ x.toInt → BST nm ne w my e idle s k P2 x) ∧ (x.toInt < y.toInt → BST nm ne w my e idle s k P2 y) := by
  have key : ∀ S, stok nm e S → Rep nm S idle s k → ∃ b c : Int, x = zI b ∧ y = zI c ∧ x.toInt = b ∧ y.toInt = c ∧ 0 ≤ b ∧ 0 ≤ c ∧ b ≤ mV nm w my (ne - e) e S ∧ c ≤ mV nm w my (ne - e) e S ∧ mV nm w my (ne - (e + 1)) (e + 1) S ≤ b ∧ ∀ m, m < nm → P2 S m → my (S m) e = true → w e + mV nm w my (ne - (e + 1)) (e + 1) (upS S m (nm + e)) ≤ b ∨ w e + mV nm w my (ne - (e + 1)) (e + 1) (upS S m (nm + e)) = c := by
    intro S hs hr
    obtain ⟨b, h1, h2, h3, h4, h5⟩ := h S hs hr
    obtain ⟨m0, g1, g2, g3, g4⟩ := hy S hs hr
    have hne := hp.1
    have t1 := mV_top hp (e := e) (ne - e) (by omega) S
    have hw := hp.2.1 e
    have n1 := mV_nn (nm := nm) (w := w) (my := my) (ne - (e + 1)) (e + 1) (upS S m0 (nm + e))
    have d1 : w e + mV nm w my (ne - (e + 1)) (e + 1) (upS S m0 (nm + e)) ≤ mV nm w my (ne - e) e S := by
      rw [show ne - e = ne - (e + 1) + 1 by omega]
      exact mV_do g1 g2
    refine ⟨b, _, h1, g3, by rw [h1, zI_toInt (by omega) (by omega)], by rw [g3, zI_toInt (by omega) (by omega)], h2, by omega, h3, d1, h4, fun m hm hp2 hmy => ?_⟩
    rcases g4 m hm hp2 with q | q
    · exact Or.inl (h5 m hm q hmy)
    · exact Or.inr (by rw [q])
  refine ⟨fun hle S hs hr => ?_, fun hlt S hs hr => ?_⟩
  · obtain ⟨b, c, a1, a2, a3, a4, a5, a6, a7, a8, a9, a10⟩ := key S hs hr
    refine ⟨b, a1, a5, a7, a9, fun m hm hp2 hmy => ?_⟩
    rcases a10 m hm hp2 hmy with q | q
    · exact q
    · omega
  · obtain ⟨b, c, a1, a2, a3, a4, a5, a6, a7, a8, a9, a10⟩ := key S hs hr
    refine ⟨c, a2, a6, a8, by omega, fun m hm hp2 hmy => ?_⟩
    rcases a10 m hm hp2 hmy with q | q
    · omega
    · omega
theorem BST.fin (he : e < ne) (h : BST nm ne w my e idle s k P x) (hP : ∀ S m, stok nm e S → Rep nm S idle s k → m < nm → P S m) {S : Nat → Nat} (hs : stok nm e S) (hr : Rep nm S idle s k) : x = zI (mV nm w my (ne - e) e S) := by
  obtain ⟨b, h1, h2, h3, h4, h5⟩ := h S hs hr
  have : b = mV nm w my (ne - e) e S := by
    refine Int.le_antisymm h3 ?_
    rw [show ne - e = ne - (e + 1) + 1 by omega]
    rcases mV_or (nm := nm) (w := w) (my := my) (f := ne - (e + 1)) (e := e) (S := S) with g | ⟨m, g1, g2, g3⟩
    · rw [g]; exact h4
    · rw [g3]; exact h5 m g1 (hP S m hs hr g1) g2
  rw [h1, this]
end BSTS
section MWORK
variable {Γ : AMG} {Q : QQ} {d : Nat} {I : II} {Lg : LJ} {R : RR} {gc : Nat → Nat}
set_option maxRecDepth 100000 in
theorem s_cellOf {nm stage idle k wo : Nat} {mo : Int} {x1 x2 x3 x4 x5 : Int32} {s : Nat → Nat} (hnm : nm ≤ 4) (hb : BinAt I) (ho : OffAt I nm) (hid : idle < 2 ^ nm) (hk : k ≤ 4) (hs : RA I 170 k (fun j => (s j : Int))) (hs24 : ∀ j, j < k → s j < 25) (hx1 : x1 = zI stage) (hx2 : x2 = zI idle) (hx3 : x3 = zI k) (hwo : (x4 = zI (-1) ∧ k ≤ wo) ∨ (x4 = zI wo ∧ wo < k)) (hx5 : x5 = zI mo) (hmo : mo = -1 ∨ (0 ≤ mo ∧ mo < 25))
    (h : Q (some (vI (zI ((20475 * stage + (off nm idle + (rks (del s wo) (dn wo k) + (if mo = -1 then 0 else bc mo.toNat (dn wo k + 1)))) : Nat) : Int)))) I Lg R (GM gc)) :
    am_Sp Γ (d + 1) 0 0 mX12_cellOf [vR 12 0, vI x1, vI x2, vI x3, vI x4, vI x5] I Lg R (GM gc) Q := by
  have hpow : ∀ n : Nat, n < 5 → 2 ^ n ≤ 16 := by decide +kernel
  have h16 := hpow nm (by omega)
  have h3t : x3.toInt = k := by rw [hx3, zI_toInt (by omega) (by omega)]
  have h2t : x2.toInt = idle := by rw [hx2, zI_toInt (by omega) (by omega)]
  have h5t : x5.toInt = mo := by rw [hx5, zI_toInt (by omega) (by omega)]
  have h4t : (x4.toInt = -1 ∧ k ≤ wo) ∨ (x4.toInt = wo ∧ wo < k) := by
    rcases hwo with ⟨a, b⟩ | ⟨a, b⟩
    · exact Or.inl ⟨by rw [a, zI_toInt (by omega) (by omega)], b⟩
    · exact Or.inr ⟨by rw [a, zI_toInt (by omega) (by omega)], b⟩
  -- the end
  have fin : ∀ (x6 x7 x8 : Int32) (r : Nat), x6 = zI r → r = rks (del s wo) (dn wo k) + (if mo = -1 then 0 else bc mo.toNat (dn wo k + 1)) → am_J Γ mX12_cellOf Q (d + 1) 0 0 73 [some (vR 12 0), some (vI x1), some (vI x2), some (vI x3), some (vI x4), some (vI x5), some (vI x6), some (vI x7), some (vI x8)] [] I Lg R (GM gc) := by
    intro x6 x7 x8 r hx6 hr
    refine am_goN vX12_cellOf 20 ?_
    refine And.intro ⟨by omega, by omega⟩ ?_
    rw [h2t, Int.toNat_natCast, ho idle hid]
    have e : zI 20475 * x1 + zI (off nm idle) + x6 = zI ((20475 * stage + (off nm idle + (rks (del s wo) (dn wo k) + (if mo = -1 then 0 else bc mo.toNat (dn wo k + 1)))) : Nat) : Int) := by
      rw [hx1, hx6, hr, zI_mul, zI_add, zI_add]
      congr 1
      omega
    rw [← e] at h
    exact h
  have loop : ∀ (m j : Nat) (x6 x7 x8 : Int32), j + m = k → x6 = zI (rks (del s wo) (dn wo j)) → x7 = zI (dn wo j) → x8 = zI j → am_J Γ mX12_cellOf Q (d + 1) 0 0 9 [some (vR 12 0), some (vI x1), some (vI x2), some (vI x3), some (vI x4), some (vI x5), some (vI x6), some (vI x7), some (vI x8)] [] I Lg R (GM gc) := by
    intro m
    induction m with
    | zero =>
      intro j x6 x7 x8 hj hx6 hx7 hx8
      have ej : j = k := by omega
      subst ej
      have h8t : x8.toInt = j := by rw [hx8, zI_toInt (by omega) (by omega)]
      have hdl := dn_le (wo := wo) (j := j)
      refine am_goN vX12_cellOf 3 ?_
      refine And.intro (fun _ => ?_) (fun z => ?_)
      rotate_left
      · rw [h8t, h3t] at z
        omega
      refine am_goN vX12_cellOf 3 ?_
      refine And.intro (fun z => ?_) (fun z => ?_)
      · rw [h5t, zI_toInt (by omega) (by omega)] at z
        exact fin x6 x7 x8 _ hx6 (by rw [if_pos z]; omega)
      · rw [h5t, zI_toInt (by omega) (by omega)] at z
        refine am_goN vX12_cellOf 9 ?_
        refine s_choose (n := mo.toNat) (k := dn wo j + 1) (by omega) (by omega) (by rw [hx5]; congr 1; omega) (by rw [hx7, zI_add]; congr 1) hb ?_
        refine fun y6 ey6 => ?_
        refine fin y6 x7 x8 (rks (del s wo) (dn wo j) + bc mo.toNat (dn wo j + 1)) (by rw [ey6, hx6, zI_add]; rfl) (by rw [if_neg z])
    | succ m ih =>
      intro j x6 x7 x8 hj hx6 hx7 hx8
      have hjk : j < k := by omega
      have h8t : x8.toInt = j := by rw [hx8, zI_toInt (by omega) (by omega)]
      have hdl := dn_le (wo := wo) (j := j)
      have hsj := hs j hjk
      have hsl := hs24 j hjk
      refine am_goN vX12_cellOf 3 ?_
      refine And.intro (fun z => ?_) (fun _ => ?_)
      · rw [h8t, h3t] at z
        omega
      refine am_goN vX12_cellOf 3 ?_
      refine And.intro (fun z => ?_) (fun z => ?_)
      · rw [h8t] at z
        have hne : j ≠ wo := by omega
        refine am_goN vX12_cellOf 13 ?_
        refine fun y7 ey7 => ?_
        refine And.intro ⟨by omega, by omega⟩ ?_
        refine s_choose (n := s j) (k := dn wo j + 1) (by omega) (by omega) (by rw [h8t, Int.toNat_natCast]; exact hsj) (by rw [ey7, hx7, zI_add]; congr 1) hb ?_
        refine fun y6 ey6 => ?_
        refine fun y8 ey8 => ?_
        refine ih (j + 1) y6 y7 y8 (by omega) ?_ (by rw [ey7, hx7, zI_add, dn_s hne]; congr 1) (by rw [ey8, hx8, zI_add]; congr 1)
        rw [ey6, hx6, zI_add, dn_s hne]
        show _ = zI ((rks (del s wo) (dn wo j) + bc (del s wo (dn wo j)) (dn wo j + 1) : Nat) : Int)
        rw [del_dn hne]
        rfl
      · rw [h8t] at z
        have hne : j = wo := by omega
        refine am_goN vX12_cellOf 3 ?_
        refine fun y8 ey8 => ?_
        subst hne
        exact ih (j + 1) x6 x7 y8 (by omega) (by rw [dn_e]; exact hx6) (by rw [dn_e]; exact hx7) (by rw [ey8, hx8, zI_add]; congr 1)
  refine am_runN vX12_cellOf 6 _ rfl rfl rfl rfl ?_
  refine fun y6 ey6 y7 ey7 y8 ey8 => ?_
  exact loop k 0 y6 y7 y8 (by omega) (by rw [ey6]; unfold dn; rw [if_neg (by omega)]; rfl) (by rw [ey7]; unfold dn; rw [if_neg (by omega)]; rfl) ey8
theorem s_cellA {nm stage idle k : Nat} {x1 x2 x3 x4 x5 : Int32} {s : Nat → Nat} (hnm : nm ≤ 4) (hb : BinAt I) (ho : OffAt I nm) (hid : idle < 2 ^ nm) (hk : k ≤ 4) (hs : RA I 170 k (fun j => (s j : Int))) (hs24 : ∀ j, j < k → s j < 25) (hx1 : x1 = zI stage) (hx2 : x2 = zI idle) (hx3 : x3 = zI k) (hx4 : x4 = zI (-1)) (hx5 : x5 = zI (-1))
    (h : Q (some (vI (zI ((20475 * stage + (off nm idle + rks s k) : Nat) : Int)))) I Lg R (GM gc)) :
    am_Sp Γ (d + 1) 0 0 mX12_cellOf [vR 12 0, vI x1, vI x2, vI x3, vI x4, vI x5] I Lg R (GM gc) Q := by
  refine s_cellOf (wo := 28) (mo := -1) hnm hb ho hid hk hs hs24 hx1 hx2 hx3 (Or.inl ⟨hx4, by omega⟩) hx5 (Or.inl rfl) ?_
  rw [if_pos rfl, show dn 28 k = k from if_neg (by omega), rks_congr (s := del s 28) (t := s) k (fun i hi => if_pos (by omega)), Nat.add_zero]
  exact h
theorem s_cellB {nm stage idle k j e : Nat} {x1 x2 x3 x4 x5 : Int32} {s : Nat → Nat} (hnm : nm ≤ 4) (hb : BinAt I) (ho : OffAt I nm) (hid : idle < 2 ^ nm) (hk : k ≤ 4) (hs : RA I 170 k (fun j => (s j : Int))) (hs24 : ∀ j, j < k → s j < 25) (hx1 : x1 = zI stage) (hx2 : x2 = zI idle) (hx3 : x3 = zI k) (hx4 : x4 = zI j) (hj : j < k) (hx5 : x5 = zI e) (he : e < 25)
    (h : Q (some (vI (zI ((20475 * stage + (off nm idle + rks (updN (del s j) (k - 1) e) k) : Nat) : Int)))) I Lg R (GM gc)) :
    am_Sp Γ (d + 1) 0 0 mX12_cellOf [vR 12 0, vI x1, vI x2, vI x3, vI x4, vI x5] I Lg R (GM gc) Q := by
  refine s_cellOf (wo := j) (mo := e) hnm hb ho hid hk hs hs24 hx1 hx2 hx3 (Or.inr ⟨hx4, hj⟩) hx5 (Or.inr ⟨by omega, by omega⟩) ?_
  rw [if_neg (by omega), show dn j k = k - 1 from if_pos hj, Int.toNat_natCast]
  obtain ⟨k', rfl⟩ : ∃ k', k = k' + 1 := ⟨k - 1, by omega⟩
  have e1 : rks (updN (del s j) (k' + 1 - 1) e) (k' + 1) = rks (del s j) (k' + 1 - 1) + bc e (k' + 1 - 1 + 1) := by
    rw [show k' + 1 - 1 = k' by omega]
    show rks (updN (del s j) k' e) k' + bc (updN (del s j) k' e k') (k' + 1) = _
    rw [updN_s, rks_congr (t := del s j) k' (fun i hi => updN_n (by omega))]
  rw [← e1]
  exact h
theorem s_cellC {nm stage idle k e : Nat} {x1 x2 x3 x4 x5 : Int32} {s : Nat → Nat} (hnm : nm ≤ 4) (hb : BinAt I) (ho : OffAt I nm) (hid : idle < 2 ^ nm) (hk : k ≤ 4) (hs : RA I 170 k (fun j => (s j : Int))) (hs24 : ∀ j, j < k → s j < 25) (hx1 : x1 = zI stage) (hx2 : x2 = zI idle) (hx3 : x3 = zI k) (hx4 : x4 = zI (-1)) (hx5 : x5 = zI e) (he : e < 25)
    (h : Q (some (vI (zI ((20475 * stage + (off nm idle + rks (updN s k e) (k + 1)) : Nat) : Int)))) I Lg R (GM gc)) :
    am_Sp Γ (d + 1) 0 0 mX12_cellOf [vR 12 0, vI x1, vI x2, vI x3, vI x4, vI x5] I Lg R (GM gc) Q := by
  refine s_cellOf (wo := 28) (mo := e) hnm hb ho hid hk hs hs24 hx1 hx2 hx3 (Or.inl ⟨hx4, by omega⟩) hx5 (Or.inr ⟨by omega, by omega⟩) ?_
  rw [if_neg (by omega), show dn 28 k = k from if_neg (by omega), rks_congr (s := del s 28) (t := s) k (fun i hi => if_pos (by omega)), Int.toNat_natCast]
  have e1 : rks (updN s k e) (k + 1) = rks s k + bc e (k + 1) := by
    show rks (updN s k e) k + bc (updN s k e k) (k + 1) = _
    rw [updN_s, rks_congr (t := s) k (fun i hi => updN_n (by omega))]
  rw [← e1]
  exact h
end MWORK
