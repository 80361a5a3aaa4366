/-! The reference's tokens. -/
theorem zL_add (a b : Int) : zL a + zL b = zL (a + b) := (Int64.ofInt_add a b).symm
theorem zL_sub (a b : Int) : zL a - zL b = zL (a - b) := (Int64.ofInt_sub a b).symm
theorem zL_mul (a b : Int) : zL a * zL b = zL (a * b) := (Int64.ofInt_mul a b).symm
theorem zL_toInt {a : Int} (h1 : -9223372036854775808 ≤ a) (h2 : a < 9223372036854775808) : (zL a).toInt = a := Int64.toInt_ofInt_of_le (by omega) (by omega)
theorem zI_L {a : Int} (h1 : -2147483648 ≤ a) (h2 : a < 2147483648) : (zI a).toInt64 = zL a := by
  apply Int64.toInt.inj
  rw [Int32.toInt_toInt64, zI_toInt h1 h2, zL_toInt (by omega) (by omega)]
/-- the word of the first n signs (8 at most), and their number (4 at most) -/
def hwN (bs : Nat → Int) (q : Nat) : Nat → Int
  | 0 => 0
  | n + 1 => if n < 8 then 27 * hwN bs q n + bs (q + n) - 96 else hwN bs q n
def nvN (bs : Nat → Int) (q : Nat) : Nat → Int
  | 0 => 0
  | n + 1 => if n < 4 then 10 * nvN bs q n + bs (q + n) - 48 else nvN bs q n
def letP (bs : Nat → Int) (q n : Nat) : Prop := ∀ i, i < n → 97 ≤ bs (q + i) ∧ bs (q + i) ≤ 122
def digP (bs : Nat → Int) (q n : Nat) : Prop := ∀ i, i < n → 48 ≤ bs (q + i) ∧ bs (q + i) ≤ 57
def alnP (bs : Nat → Int) (q n : Nat) : Prop := ∀ i, i < n → (97 ≤ bs (q + i) ∧ bs (q + i) ≤ 122) ∨ (48 ≤ bs (q + i) ∧ bs (q + i) ≤ 57)
theorem rst_let {bs : Nat → Int} {q : Nat} : ∀ n, letP bs q n → (rst bs q n).1 = n ∧ (rst bs q n).2.1 = 0
  | 0, _ => ⟨rfl, rfl⟩
  | n + 1, h => by
    have ih := rst_let (bs := bs) (q := q) n (fun i hi => h i (by omega))
    have := h n (by omega)
    unfold rst
    rw [if_neg (by omega)]
    exact ⟨by dsimp only; omega, ih.2⟩
theorem rst_dig {bs : Nat → Int} {q : Nat} : ∀ n, digP bs q n → (rst bs q n).1 = 0 ∧ (rst bs q n).2.1 = n ∧ (n ≤ 4 → (rst bs q n).2.2 = nvN bs q n)
  | 0, _ => ⟨rfl, rfl, fun _ => rfl⟩
  | n + 1, h => by
    obtain ⟨i1, i2, i3⟩ := rst_dig (bs := bs) (q := q) n (fun i hi => h i (by omega))
    have := h n (by omega)
    unfold rst nvN
    rw [if_pos this]
    refine ⟨i1, by dsimp only; omega, fun h4 => ?_⟩
    dsimp only
    rw [if_neg (by omega), if_pos (by omega), i3 (by omega)]
    omega
theorem rst_mix1 {bs : Nat → Int} {q : Nat} : ∀ n, (∃ i, i < n ∧ 48 ≤ bs (q + i) ∧ bs (q + i) ≤ 57) → 1 ≤ (rst bs q n).2.1
  | 0, h => by obtain ⟨i, hi, -⟩ := h; omega
  | n + 1, h => by
    unfold rst
    split
    · dsimp only; omega
    · next hc =>
      dsimp only
      refine rst_mix1 n ?_
      obtain ⟨i, hi, h2⟩ := h
      by_cases e : i = n
      · subst e; exact absurd h2 hc
      · exact ⟨i, by omega, h2⟩
theorem rst_mix2 {bs : Nat → Int} {q : Nat} : ∀ n, (∃ i, i < n ∧ 97 ≤ bs (q + i) ∧ bs (q + i) ≤ 122) → 1 ≤ (rst bs q n).1
  | 0, h => by obtain ⟨i, hi, -⟩ := h; omega
  | n + 1, h => by
    unfold rst
    split
    · next hc =>
      dsimp only
      refine rst_mix2 n ?_
      obtain ⟨i, hi, h2⟩ := h
      by_cases e : i = n
      · subst e; omega
      · exact ⟨i, by omega, h2⟩
    · dsimp only; omega
theorem alnE_spec {sz : Nat} {bs : Nat → Int} : ∀ (f p : Nat), alnP bs p (alnE sz bs f p - p)
  | 0, p => by
    intro i hi
    have : alnE sz bs 0 p = p := rfl
    omega
  | f + 1, p => by
    intro i hi
    unfold alnE at hi
    split at hi
    · next h =>
      cases i with
      | zero => exact h.2
      | succ i =>
        have := alnE_spec (sz := sz) (bs := bs) f (p + 1) i (by omega)
        rw [show p + (i + 1) = p + 1 + i by omega]
        exact this
    · omega
/-- the reference stands at that token -/
def MTk (I : II) (Lg : LJ) (sz : Nat) (bs : Nat → Int) (t : TK) : Prop :=
  I 63 0 0 = zI t.2.1 ∧ (t.1 = 0 → I 64 0 0 = (if sz ≤ 600 then zI 0 else zI 1)) ∧ (t.1 = 4 → I 64 0 0 = zI 1) ∧
  (t.1 = 3 → I 64 0 0 = zI 4 ∧ I 62 0 0 = zI t.2.2.1) ∧ (t.1 = 2 → I 64 0 0 = zI 3 ∧ I 62 0 0 = zI t.2.2.1 ∧ I 65 0 0 = zI t.2.2.2) ∧
  (t.1 = 1 → I 64 0 0 = zI 2 ∧ I 62 0 0 = zI t.2.2.1 ∧ Lg 0 0 0 = zL (hwN bs t.2.1 (t.2.2.1 - t.2.1)))
abbrev mgv : List Nat := [62, 63, 64, 65]
def FrW (Lg Lg' : LJ) : Prop := ∀ v, v ≠ 0 → Lg' v = Lg v
theorem FrW.rf {Lg : LJ} : FrW Lg Lg := fun _ _ => rfl
theorem FrW.tr {Lg Lg' Lg2 : LJ} (h : FrW Lg Lg') (h2 : FrW Lg' Lg2) : FrW Lg Lg2 := fun v hv => (h2 v hv).trans (h v hv)
theorem FrW.up {Lg Lg' : LJ} (h : FrW Lg Lg') (x : Int64) : FrW Lg (up3 Lg' 0 0 0 x) := fun v hv => by rw [up3_v _ hv]; exact h v hv
set_option maxRecDepth 100000 in
theorem s_mbyteAt {Γ : AMG} {Q : QQ} {d p : Nat} {x : Int32} {I : II} {Lg : LJ} {R : RR} {gc : Nat → Nat} {sz : Nat} {bs : Nat → Int} (hb : BSsok sz bs) (ht : ∀ k, k < sz → I 125 0 k = zI (bs k)) (hs : I 61 0 0 = zI sz) (hx : x = zI p) (hp : p ≤ 1000)
    (h : Q (some (vI (zI (if p < sz then bs p else 0)))) I Lg R (GM gc)) : am_Sp Γ d 0 0 mX12_byteAt [vR 12 0, vI x] I Lg R (GM gc) Q := by
  have hsz := hb.1
  have hxt : x.toInt = p := by rw [hx, zI_toInt (by omega) (by omega)]
  have hxn : x.toInt.toNat = p := by rw [hxt]; omega
  have hst : (I 61 0 0).toInt = sz := by rw [hs, zI_toInt (by omega) (by omega)]
  refine am_run vX12_byteAt 40 _ rfl rfl rfl rfl ?_
  refine And.intro (fun c => ?_) (fun c => ?_)
  · rw [hxt, hst] at c
    rw [if_neg (by omega)] at h
    exact h
  · rw [hxt, hst] at c
    rw [if_pos (by omega), ← ht p (by omega)] at h
    refine And.intro ⟨by omega, by omega⟩ ?_
    rw [hxn]
    exact h
theorem mskip_loop {Γ : AMG} {Q : QQ} {d : Nat} {I : II} {Lg : LJ} {R : RR} {gc : Nat → Nat} {l1 l2 l3 l4 : Option AV} {sz : Nat} {bs : Nat → Int} (hb : BSsok sz bs) (ht : ∀ k, k < sz → I 125 0 k = zI (bs k)) (hs : I 61 0 0 = zI sz) :
    ∀ (m p : Nat) (I1 : II), sz ≤ p + m → p ≤ 640 → FrI (V0 mgv) I I1 → I1 62 0 0 = zI p →
      (∀ I' : II, FrI (V0 mgv) I I' → I' 62 0 0 = zI (skp bs sz m p) → skp bs sz m p ≤ 640 → am_J Γ mX12_go Q (d + 1) 0 0 52 [some (vR 12 0), l1, l2, l3, l4] [] I' Lg R (GM gc)) →
      am_J Γ mX12_go Q (d + 1) 0 0 0 [some (vR 12 0), l1, l2, l3, l4] [] I1 Lg R (GM gc) := by
  have hsz := hb.1
  intro m
  induction m with
  | zero =>
    intro p I1 hm hp hf ha h
    have hat : (I1 62 0 0).toInt = p := by rw [ha, zI_toInt (by omega) (by omega)]
    have hst : (I1 61 0 0).toInt = sz := by rw [hf _ _ rfl, hs, zI_toInt (by omega) (by omega)]
    refine am_goN vX12_go 5 ?_
    refine And.intro (fun c => ?_) (fun c => ?_)
    · exact h I1 hf ha hp
    · rw [hat, hst] at c
      omega
  | succ m ih =>
    intro p I1 hm hp hf ha h
    have hat : (I1 62 0 0).toInt = p := by rw [ha, zI_toInt (by omega) (by omega)]
    have han : (I1 62 0 0).toInt.toNat = p := by rw [hat]; omega
    have hst : (I1 61 0 0).toInt = sz := by rw [hf _ _ rfl, hs, zI_toInt (by omega) (by omega)]
    unfold skp at h
    refine am_goN vX12_go 5 ?_
    refine And.intro (fun c => ?_) (fun c => ?_)
    · rw [hat, hst] at c
      rw [if_neg (by omega)] at h
      exact h I1 hf ha hp
    rw [hat, hst] at c
    have hbp := hb.2 p
    have hbt : (I1 125 0 p).toInt = bs p := by rw [hf _ _ rfl, ht p (by omega), zI_toInt (by omega) (by omega)]
    have k39 : (bs p = 32 ∨ bs p = 10) → am_J Γ mX12_go Q (d + 1) 0 0 39 [some (vR 12 0), l1, l2, l3, l4] [] I1 Lg R (GM gc) := by
      intro hy
      rw [if_pos ⟨by omega, hy⟩] at h
      refine am_goN vX12_go 8 ?_
      refine fun y ey I2 e2 => ?_
      exact ih (p + 1) I2 (by omega) (by omega) (by rw [e2]; exact hf.up rfl) (by rw [e2, up3_s, ey, ha, zI_add]; congr 1) h
    refine am_goN vX12_go 7 ?_
    refine And.intro ⟨by omega, by omega⟩ ?_
    rw [han]
    refine And.intro (fun c1 => ?_) (fun c1 => ?_)
    · rw [hbt, zI_toInt (by omega) (by omega)] at c1
      exact k39 (Or.inl c1)
    rw [hbt, zI_toInt (by omega) (by omega)] at c1
    refine am_goN vX12_go 7 ?_
    refine And.intro ⟨by omega, by omega⟩ ?_
    rw [han]
    refine And.intro (fun c2 => ?_) (fun c2 => ?_)
    · rw [hbt, zI_toInt (by omega) (by omega)] at c2
      rw [if_neg (by omega)] at h
      exact h I1 hf ha hp
    · rw [hbt, zI_toInt (by omega) (by omega)] at c2
      exact k39 (Or.inr (by omega))
/-- the two ways to skip -/
theorem skp_two {bs : Nat → Int} {a b : Nat} (hab : a ≤ b) : ∀ (f p : Nat), b ≤ p + f → (skp bs a f p < a → skp bs b f p = skp bs a f p) ∧ (a ≤ skp bs a f p → a ≤ skp bs b f p)
  | 0, p, h => ⟨fun q => by have : skp bs a 0 p = p := rfl; omega, fun q => q⟩
  | f + 1, p, h => by
    have ih := skp_two (bs := bs) hab f (p + 1) (by omega)
    unfold skp
    by_cases h1 : p < a ∧ (bs p = 32 ∨ bs p = 10)
    · rw [if_pos h1, if_pos (show p < b ∧ (bs p = 32 ∨ bs p = 10) from ⟨by omega, h1.2⟩)]
      exact ih
    · rw [if_neg h1]
      by_cases h2 : p < b ∧ (bs p = 32 ∨ bs p = 10)
      · rw [if_pos h2]
        refine ⟨fun q => absurd ⟨q, h2.2⟩ h1, fun q => ?_⟩
        have := (skp_le (bs := bs) (lim := b) f (p + 1)).1
        omega
      · rw [if_neg h2]
        exact ⟨fun _ => rfl, fun q => q⟩
