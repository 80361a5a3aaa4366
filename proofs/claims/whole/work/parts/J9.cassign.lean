/-! made in the class: assignRow, assignAll. -/
abbrev asv : List Nat := [92, 93, 95, 94, 96, 98, 97]
theorem FrI.lst {l l2 : List Nat} {I I' : II} (h : FrI (V0 l) I I') (hl : ∀ v ∈ l, v ∈ l2) : FrI (V0 l2) I I' := h.mono (fun v i hv => by
  unfold V0 at hv ⊢
  cases e : l.elem v with
  | false => rfl
  | true =>
    have := hl v (List.elem_iff.mp e)
    rw [List.elem_iff.mpr this] at hv
    cases hv)
def CWk (I : II) (n : Nat) (c : Nat → Nat → Int) (p q ro co sl fr sn : Nat → Int) : Prop :=
  I 18 0 0 = zI n ∧ CostAt I n c ∧ RA I 92 n p ∧ RA I 93 n q ∧ RA I 95 n ro ∧ RA I 94 n co ∧ RA I 96 n sl ∧ RA I 97 n fr ∧ RA I 98 n sn
theorem RA.self (I : II) (v n : Nat) : RA I v n (fun j => (I v 0 j).toInt) := fun j _ => (zI_self _).symm
theorem RA.fill {I I' : II} {v N n : Nat} {x : Int32} {z : Int} (h : ∀ v' i' j, I' v' i' j = if v' = v ∧ i' = 0 ∧ j < N then x else I v' i' j) (hx : x = zI z) (hn : n ≤ N) : RA I' v n (fun _ => z) := fun j hj => by rw [h, if_pos ⟨rfl, rfl, by omega⟩, hx]
theorem FrI.fill {I I' : II} {v N : Nat} {x : Int32} (h : ∀ v' i' j, I' v' i' j = if v' = v ∧ i' = 0 ∧ j < N then x else I v' i' j) : FrI (V0 [v]) I I' := fun v' i' hq => by
  funext j
  rw [h, if_neg]
  rintro ⟨rfl, -, -⟩
  unfold V0 at hq
  simp at hq
section CASG
variable {Γ : AMG} {Q : QQ} {d n : Nat} {I : II} {Lg : LJ} {R : RR} {gc : Nat → Nat} {c : Nat → Nat → Int} {p q ro co : Nat → Int}
theorem small_of {f : Nat → Int} (h : ∀ j, j < n → -3000000 ≤ f j ∧ f j ≤ 100000000) : smallF n f := fun j hj => by have := h j hj; omega
set_option maxRecDepth 100000 in
theorem s_assignRow {first : Nat} {x1 : Int32} (hn : n ≤ 28) (hfn : first < n) (hx1 : x1 = zI first) (hcb : ∀ r j, -9999 ≤ c r j ∧ c r j ≤ 1000000) (hsd : I 18 0 0 = zI n) (hc : CostAt I n c) (hp : RA I 92 n p) (hq : RA I 93 n q) (hro : RA I 95 n ro) (hco : RA I 94 n co) (hA : ASok n first c p q ro co)
    (h : ∀ (I' : II) (p' q' ro' co' : Nat → Int), FrI (V0 asv) I I' → RA I' 92 n p' → RA I' 93 n q' → RA I' 95 n ro' → RA I' 94 n co' → ASok n (first + 1) c p' q' ro' co' → Q none I' Lg R (GM gc)) :
    am_Sp Γ (d + 2) 0 0 mX3_assignRow [vR 3 0, vI x1] I Lg R (GM gc) Q := by
  have h1t : x1.toInt = first := by rw [hx1, zI_toInt (by omega) (by omega)]
  have loop : ∀ (m i row : Nat) (col : Int) (x2 x3 x4 : Int32) (p q sl fr sn : Nat → Int) (ρ τ : Nat → Nat) (I1 : II), i + m = n → x2 = zI row → x3 = zI col → x4 = zI i → FrI (V0 asv) I I1 → CWk I1 n c p q ro co sl fr sn → HSok n first c p q ro co sl fr sn ρ τ i row col →
      am_J Γ mX3_assignRow Q (d + 2) 0 0 24 [some (vR 3 0), some (vI x1), some (vI x2), some (vI x3), some (vI x4)] [] I1 Lg R (GM gc) := by
    intro m
    induction m with
    | zero =>
      intro i row col x2 x3 x4 p q sl fr sn ρ τ I1 him _ _ _ _ _ hS
      have := hS.ile
      omega
    | succ m ih =>
      intro i row col x2 x3 x4 p q sl fr sn ρ τ I1 him hx2 hx3 hx4 f1 hW hS
      obtain ⟨w1, w2, w3, w4, w5, w6, w7, w8, w9⟩ := hW
      have hrow : row < n := by have := (hS.rle hS.rowR).1; omega
      have hile := hS.ile
      have h2t : x2.toInt = row := by rw [hx2, zI_toInt (by omega) (by omega)]
      have h4t : x4.toInt = i := by rw [hx4, zI_toInt (by omega) (by omega)]
      have hpb : smallF n p := small_of (fun j _ => by have := hS.2.2.1.1 j; omega)
      have hqb : smallF n q := small_of (fun j hj => by have := hS.2.2.1.2.2 j hj; omega)
      have hslb : smallF n sl := small_of hS.2.2.2.2.2.2.2.1.1
      have hsn01 := hS.2.2.2.2.2.2.2.1.2
      refine am_goN vX3_assignRow 4 ?_
      refine And.intro (fun z => ?_) (fun _ => ?_)
      · rw [h4t, w1, zI_toInt (by omega) (by omega)] at z
        omega
      refine am_goN vX3_assignRow 2 ?_
      refine And.intro (fun z => ?_) (fun _ => ?_)
      · omega
      refine am_goN vX3_assignRow 4 ?_
      refine And.intro (fun z => ?_) (fun _ => ?_)
      · rw [h2t, w1, zI_toInt (by omega) (by omega)] at z
        omega
      refine am_goN vX3_assignRow 9 ?_
      refine s_relax hn w1 hrow hx2 hx3 w2 hcb w3 hpb w4 hqb w9 hsn01 w7 hslb w8 (fun I2 f2 s2 c2 => ?_)
      obtain ⟨r7, r8, r9, r10⟩ := hS.rlx hcb rfl rfl
      obtain ⟨u, hu, hu1, hu2, hu3⟩ := hS.free hfn
      refine s_nearest hn (by rw [f2 18 _ rfl]; exact w1) (w9.fr f2 rfl) hsn01 s2 (small_of r10) ⟨u, hu, hu3⟩ (fun b hb hsb hmin => ?_)
      refine fun x3' e3 => ?_
      have h3t : x3'.toInt = b := by rw [e3, zI_toInt (by omega) (by omega)]
      refine And.intro (fun z => ?_) (fun _ => ?_)
      · omega
      refine am_goN vX3_assignRow 3 ?_
      refine And.intro (fun _ => ?_) (fun z => ?_)
      rotate_left
      · rw [h3t, zI_toInt (by omega) (by omega)] at z
        omega
      refine am_goN vX3_assignRow 19 ?_
      refine And.intro ⟨by omega, by omega⟩ ?_
      have hmt : ∀ j, j < n → sn j ≠ 0 → ∃ r : Nat, r < n ∧ ro j = r ∧ r ≠ first ∧ co r = j := fun j hj hs => by
        rcases hS.1.1 j hj with ⟨_, _, g⟩ | ⟨r, g1, g2, g3, _⟩
        · exact absurd g hs
        · exact ⟨r, by omega, g1, by omega, g3⟩
      refine s_lower (z := rlxS c p q sn sl row b) hn (by rw [f2 18 _ rfl]; exact w1) hfn hx1 (by rw [h3t, Int.toNat_natCast]; exact s2 b hb) (w9.fr f2 rfl) hsn01 (w3.fr f2 rfl) (w4.fr f2 rfl) s2 (w5.fr f2 rfl) (fun j hj hs => by obtain ⟨r, g1, g2, g3, _⟩ := hmt j hj hs; exact ⟨r, g1, g2, g3⟩) (fun a b ha hb hsa hsb e => by
        obtain ⟨r1, g1, g2, _, g3⟩ := hmt a ha hsa
        obtain ⟨r2, d1, d2, _, d3⟩ := hmt b hb hsb
        have e9 : r1 = r2 := by omega
        rw [e9] at g3
        omega) (fun I3 f3 p3 q3 s3 => ?_)
      refine And.intro ⟨by omega, by omega⟩ ?_
      refine fun y ey I4 e4 => ?_
      rw [h3t, Int.toNat_natCast] at e4
      refine And.intro ⟨by omega, by omega⟩ ?_
      refine fun x2' ex2 x4' ex4 => ?_
      have f4 : FrI (V0 [98]) I3 I4 := by rw [e4]; exact FrI.rf.up rfl
      have hx4' : x4' = zI (i + 1 : Nat) := by rw [ex4, hx4, zI_add]; congr 1
      have hx2' : x2' = zI (ro b) := by
        rw [ex2, h3t, Int.toNat_natCast, f4 95 _ rfl, f3 95 _ rfl, f2 95 _ rfl]
        exact w5 b hb
      have g2 := f2.lst (l2 := asv) (by decide)
      have g3 := f3.lst (l2 := asv) (by decide)
      have g4 := f4.lst (l2 := asv) (by decide)
      have fa : FrI (V0 asv) I I4 := ((f1.tr g2).tr g3).tr g4
      have n1 : I4 18 0 0 = zI n := by rw [f4 18 _ rfl, f3 18 _ rfl, f2 18 _ rfl]; exact w1
      have n2 : CostAt I4 n c := ((w2.fr f2 (fun _ => rfl)).fr f3 (fun _ => rfl)).fr f4 (fun _ => rfl)
      have n3 := p3.fr f4 rfl
      have n4 := q3.fr f4 rfl
      have n5 : RA I4 95 n ro := ((w5.fr f2 rfl).fr f3 rfl).fr f4 rfl
      have n6 : RA I4 94 n co := ((w6.fr f2 rfl).fr f3 rfl).fr f4 rfl
      have n7 := s3.fr f4 rfl
      have n8 := (c2.fr f3 rfl).fr f4 rfl
      have n9 : RA I4 98 n (updF sn b 1) := (((w9.fr f2 rfl).fr f3 rfl).up e4 (z := 1) ey)
      rcases (hS.low hcb hfn rfl rfl hb hsb hmin rfl rfl rfl rfl).1 b hb with ⟨hrb, _, _⟩ | ⟨r, hrb, _⟩
      · obtain ⟨k1, k2, k3⟩ := hS.flip hcb hfn rfl rfl hb hsb hmin rfl rfl rfl rfl hrb
        have h2t' : x2'.toInt = -1 := by rw [hx2', hrb, zI_toInt (by omega) (by omega)]
        have h4t' : x4'.toInt = i + 1 := by rw [hx4', zI_toInt (by omega) (by omega)]; omega
        refine am_goN vX3_assignRow 4 ?_
        refine And.intro (fun z => ?_) (fun _ => ?_)
        · rw [h4t', n1, zI_toInt (by omega) (by omega)] at z
          omega
        refine am_goN vX3_assignRow 2 ?_
        refine And.intro (fun _ => ?_) (fun z => ?_)
        rotate_left
        · omega
        refine am_goN vX3_assignRow 10 ?_
        refine s_flip hn n1 hx1 e3 n5 n6 n8 hfn (fun r hr => Nat.lt_trans hr hfn) (fun g => Nat.lt_irrefl _ g) k1 k2 ⟨hb, by rw [updF_s]; omega⟩ (by rw [updN_s]; omega) (fun I5 ro' co' f5 r5 c5 hE _ => ?_)
        exact h I5 _ _ ro' co' (fa.tr (f5.lst (by decide))) (n3.fr f5 rfl) (n4.fr f5 rfl) r5 c5 (k3 ro' co' hE)
      · obtain ⟨k1, k2⟩ := hS.next hcb hfn rfl rfl hb hsb hmin rfl rfl rfl rfl hrb
        exact ih (i + 1) r b x2' x3' x4' _ _ _ _ _ _ _ I4 (by omega) (by rw [hx2', hrb]) e3 hx4' fa ⟨n1, n2, n3, n4, n5, n6, n7, n8, n9⟩ k2
  refine am_runN vX3_assignRow 20 _ rfl rfl rfl rfl ?_
  refine s_fill (c := 28) (i := 0) (N := 28) (v := 96) rfl (by omega) (fun I1 h1 => ?_)
  refine s_fill (c := 30) (i := 0) (N := 28) (v := 98) rfl (by omega) (fun I2 h2 => ?_)
  refine fun x2 e2 x3 e3 x4 e4 => ?_
  have f1 := FrI.fill h1
  have f2 := FrI.fill h2
  refine loop n 0 first (-1) x2 x3 x4 p q (fun _ => 100000000) _ (fun _ => 0) (fun _ => 0) (fun _ => 0) I2 (by omega) (by rw [e2, hx1]) e3 e4 ((f1.lst (by decide)).tr (f2.lst (by decide))) ⟨?_, (hc.fr f1 (fun _ => rfl)).fr f2 (fun _ => rfl), (hp.fr f1 rfl).fr f2 rfl, (hq.fr f1 rfl).fr f2 rfl, (hro.fr f1 rfl).fr f2 rfl, (hco.fr f1 rfl).fr f2 rfl, (RA.fill h1 (z := 100000000) (by decide +kernel) hn).fr f2 rfl, RA.self I2 _ _, RA.fill h2 rfl hn⟩ (HSok.init hfn hA (fun _ => rfl) (fun _ => rfl))
  rw [f2 18 _ rfl, f1 18 _ rfl]
  exact hsd
set_option maxRecDepth 100000 in
theorem s_assignAll (hn : n ≤ 28) (hcb : ∀ r j, -9999 ≤ c r j ∧ c r j ≤ 1000000) (hsd : I 18 0 0 = zI n) (hc : CostAt I n c)
    (h : ∀ (I' : II) (p' q' ro' co' : Nat → Int), FrI (V0 asv) I I' → RA I' 92 n p' → RA I' 93 n q' → RA I' 95 n ro' → RA I' 94 n co' → ASok n n c p' q' ro' co' → Q none I' Lg R (GM gc)) :
    am_Sp Γ (d + 3) 0 0 mX3_assignAll [vR 3 0] I Lg R (GM gc) Q := by
  have loop : ∀ (m k : Nat) (x1 : Int32) (p q ro co : Nat → Int) (I1 : II), k + m = n → x1 = zI k → FrI (V0 asv) I I1 → RA I1 92 n p → RA I1 93 n q → RA I1 95 n ro → RA I1 94 n co → ASok n k c p q ro co →
      am_J Γ mX3_assignAll Q (d + 3) 0 0 34 [some (vR 3 0), some (vI x1)] [] I1 Lg R (GM gc) := by
    intro m
    induction m with
    | zero =>
      intro k x1 p q ro co I1 hk hx1 f1 w1 w2 w3 w4 hA
      have ek : k = n := by omega
      subst ek
      have ht : x1.toInt = k := by rw [hx1, zI_toInt (by omega) (by omega)]
      refine am_goN vX3_assignAll 20 ?_
      refine And.intro (fun _ => ?_) (fun z => ?_)
      · exact h I1 p q ro co f1 w1 w2 w3 w4 hA
      · rw [ht, f1 18 _ rfl, hsd, zI_toInt (by omega) (by omega)] at z
        omega
    | succ m ih =>
      intro k x1 p q ro co I1 hk hx1 f1 w1 w2 w3 w4 hA
      have ht : x1.toInt = k := by rw [hx1, zI_toInt (by omega) (by omega)]
      refine am_goN vX3_assignAll 4 ?_
      refine And.intro (fun z => ?_) (fun _ => ?_)
      · rw [ht, f1 18 _ rfl, hsd, zI_toInt (by omega) (by omega)] at z
        omega
      refine am_goN vX3_assignAll 10 ?_
      refine s_assignRow hn (by omega) hx1 hcb (by rw [f1 18 _ rfl]; exact hsd) (hc.fr f1 (fun _ => rfl)) w1 w2 w3 w4 hA (fun I2 p' q' ro' co' f2 v1 v2 v3 v4 hA2 => ?_)
      refine fun y ey => ?_
      exact ih (k + 1) y p' q' ro' co' I2 (by omega) (by rw [ey, hx1, zI_add]; congr 1) (f1.tr f2) v1 v2 v3 v4 hA2
  refine am_runN vX3_assignAll 20 _ rfl rfl rfl rfl ?_
  refine s_fill (c := 24) (i := 0) (N := 28) (v := 92) rfl (by omega) (fun I1 h1 => ?_)
  refine s_fill (c := 25) (i := 0) (N := 28) (v := 93) rfl (by omega) (fun I2 h2 => ?_)
  refine s_fill (c := 26) (i := 0) (N := 28) (v := 94) rfl (by omega) (fun I3 h3 => ?_)
  refine s_fill (c := 27) (i := 0) (N := 28) (v := 95) rfl (by omega) (fun I4 h4 => ?_)
  refine fun x1 e1 => ?_
  have f1 := FrI.fill h1
  have f2 := FrI.fill h2
  have f3 := FrI.fill h3
  have f4 := FrI.fill h4
  refine loop n 0 x1 (fun _ => 0) (fun _ => 0) (fun _ => -1) (fun _ => -1) I4 (by omega) e1 ((((f1.lst (by decide)).tr (f2.lst (by decide))).tr (f3.lst (by decide))).tr (f4.lst (by decide))) (((RA.fill h1 rfl hn).fr f2 rfl).fr f3 rfl |>.fr f4 rfl) (((RA.fill h2 rfl hn).fr f3 rfl).fr f4 rfl) (RA.fill h4 rfl hn) ((RA.fill h3 rfl hn).fr f4 rfl) ?_
  exact ⟨⟨fun j _ => Or.inl ⟨rfl, rfl⟩, fun r hr => absurd hr (Nat.not_lt_zero _)⟩, fun r j hr => absurd hr (Nat.not_lt_zero _), fun r => by show -9999 ≤ (0 : Int) ∧ (0 : Int) ≤ 1000000; omega, fun _ _ => rfl, fun j _ => by show -1009999 ≤ (0 : Int) ∧ (0 : Int) ≤ 0; omega⟩
end CASG
