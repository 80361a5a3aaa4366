/-! Constructor of the reader (printed by wip/whole/genG6.py). -/
theorem GR.cnq {G0 G : GG} {P : Nat → Nat → Nat → Prop} {a : Nat → Nat} (h : GR G0 G P a) {t i q : Nat} (h0 : G0.2 t = i) (hz : i + a t = q) : G.2 t = q := by rw [h.1, h0, hz]
theorem V0_nD {l : List Nat} (h : l.all (fun v => !(isM v || Nat.beq v 91)) = true) : ∀ v i, nD v i = false → V0 l v i = false := by
  intro v i hv
  unfold V0
  cases e : l.elem v with
  | false => rfl
  | true =>
    have h1 := List.all_eq_true.mp h v (List.elem_iff.mp e)
    rw [show (!(isM v || Nat.beq v 91)) = false from hv] at h1
    cases h1
def dnRd0 : Nat → Nat := fun x => ((((((((0 + d1 8 x) + dnP x) + d1 52 x) + d1 53 x) + d1 54 x) + d1 55 x) + d1 56 x) + d1 57 x)
def PfRd0 : Nat → Nat → Nat → Prop := fun c j k => ((((((((False ∨ PfP 0 c j k) ∨ (c = 9 ∧ j = 0 ∧ k = 0)) ∨ (c = 9 ∧ j = 0 ∧ k = 1)) ∨ (c = 9 ∧ j = 0 ∧ k = 2)) ∨ (c = 9 ∧ j = 0 ∧ k = 3)) ∨ (c = 9 ∧ j = 0 ∧ k = 6)) ∨ (c = 9 ∧ j = 0 ∧ k = 7)) ∨ (c = 9 ∧ j = 0 ∧ k = 8))
def dnRd (n : Nat) : Nat → Nat := fun x => dnRd0 x + n * (d1 8 x + dnP x)
def PfRd (n : Nat) : Nat → Nat → Nat → Prop := fun c j k => (PfRd0 c j k ∨ (c = 8 ∧ 1 ≤ j ∧ j ≤ n ∧ k < 3)) ∨ (c = 52 ∧ j = 0 ∧ k < n)
set_option maxRecDepth 100000 in
theorem rd_loop {Γ : AMG} {Q : QQ} {d : Nat} {I : II} {Lg : LJ} {R : RR} {G0 : GG} (hN : am_NK Γ) (ho : Opn G0) (hc : ∀ x, ([8, 49, 50, 51, 52, 53, 54, 55, 56, 57] : List Nat).elem x = true → G0.2 x = 0)
    (h : ∀ (I' : II) (G' : GG), Z9 I' → FrI nD I I' → GR G0 G' (PfRd 8) (dnRd 8) → Q none I' Lg R G') :
    ∀ (m j : Nat) (x1 : Int32) (I1 : II) (G1 : GG), j + m = 8 → x1 = zI j → Z9 I1 → FrI nD I I1 → GR G0 G1 (PfRd j) (dnRd j) → am_J Γ mX9_init Q (d + 3) (4 * m) (77 * m) 91 [some (vR 9 0), some (vI x1)] [] I1 Lg R G1 := by
  intro m
  induction m with
  | zero =>
    intro j x1 I1 G1 hj hx hz fr hI
    have ej : j = 8 := by omega
    subst ej
    refine am_goN vX9_init 20 ?_
    refine And.intro (fun _ => ?_) (fun c => ?_)
    · exact h I1 G1 hz fr hI
    · rw [hx, zI_toInt (by omega) (by omega), zI_toInt (by omega) (by omega)] at c
      omega
  | succ m ih =>
    intro j x1 I1 G1 hj hx hz fr hI
    show am_J Γ mX9_init Q (d + 3) (4 * m + 3 + 1) (77 * m + 72 + 5) 91 [some (vR 9 0), some (vI x1)] [] I1 Lg R G1
    have hxt : x1.toInt = j := by rw [hx, zI_toInt (by omega) (by omega)]
    have h8 : G1.2 8 = 1 + j := by
      rw [hI.1, hc 8 rfl]
      show 0 + (1 + j * 1) = 1 + j
      omega
    have h49 : ∀ t, t = 49 ∨ t = 50 ∨ t = 51 → (am_newG G1 8).2 t = 1 + j := by
      intro t ht
      rw [(hI.new 8).1]
      rcases ht with rfl | rfl | rfl
      · rw [hc 49 rfl]
        show 0 + (1 + j * 1 + 0) = 1 + j
        omega
      · rw [hc 50 rfl]
        show 0 + (1 + j * 1 + 0) = 1 + j
        omega
      · rw [hc 51 rfl]
        show 0 + (1 + j * 1 + 0) = 1 + j
        omega
    refine am_goN vX9_init 20 ?_
    refine And.intro (fun c => ?_) (fun _ => ?_)
    · rw [hxt, zI_toInt (by omega) (by omega)] at c
      omega
    refine am_cnd (hI.2.2.2 9 0 1 (Or.inl (Or.inl (by unfold PfRd0; simp)))) ?_
    refine am_cnd (am_bop (hI.opn ho 8)) (fun _ => ?_)
    rw [h8]
    refine ar_ctor (M2 := mX8_init) (c := 8) (idx := 11) (host := "StormLoft") (k2 := 3) (n2 := 72) (k := 4 * m) (n := 77 * m) rfl (Nat.add_comm _ _) (Nat.add_comm _ _) ⟨(xok_at (i := 279) (by decide +kernel) (by decide +kernel)), rfl, by decide, by decide, by decide, by decide⟩ rfl rfl (nst hN (i := 277) (by decide +kernel) rfl) (xok_at (i := 278) (by decide +kernel) (by decide +kernel)) (xok_at (i := 108) (by decide +kernel) (by decide +kernel)) rfl (Nat.le_of_ble_eq_true rfl) (by decide +kernel) ?_
    refine s_Pinit (i := 1 + j) ((hI.new 8).opn ho) (h49 49 (Or.inl rfl)) (h49 50 (Or.inr (Or.inl rfl))) (h49 51 (Or.inr (Or.inr rfl))) hz (fun I2 H2 hz2 _ f2 hP => ?_)
    refine am_goN vX9_init 20 ?_
    refine And.intro ⟨by omega, by omega⟩ (And.intro ⟨rfl, ?_⟩ ?_)
    · show 1 + j = 1 + x1.toInt.toNat
      rw [hxt, Int.toNat_natCast]
    · have hI2 := ((hI.new 8).tr hP).put 52 0 x1.toInt.toNat (by decide)
      rw [hxt, Int.toNat_natCast] at hI2 ⊢
      refine fun x2 e2 => ?_
      refine ih (j + 1) x2 I2 _ (by omega) (by rw [e2, hx, zI_add]; congr 1) hz2 (fr.tr (f2.mono (V0_nD (by decide)))) (hI2.sub (fun c i k q => ?_) (fun x => ?_))
      · rcases q with (q | ⟨q1, q2, q3, q4⟩) | ⟨q1, q2, q3⟩
        · exact Or.inl (Or.inl (Or.inl (Or.inl q)))
        · by_cases e : i ≤ j
          · exact Or.inl (Or.inl (Or.inl (Or.inr ⟨q1, q2, e, q4⟩)))
          · exact Or.inl (Or.inr ⟨q1, by omega, q4⟩)
        · by_cases e : k < j
          · exact Or.inl (Or.inl (Or.inr ⟨q1, q2, e⟩))
          · exact Or.inr ⟨q1, q2, by omega⟩
      · show dnRd0 x + j * (d1 8 x + dnP x) + d1 8 x + dnP x = dnRd0 x + (j + 1) * (d1 8 x + dnP x)
        rw [Nat.succ_mul]
        omega
set_option maxRecDepth 100000 in
set_option maxHeartbeats 4000000 in
theorem s_Rdinit {Γ : AMG} {Q : QQ} {d : Nat} {I : II} {Lg : LJ} {R : RR} {G0 : GG} (hN : am_NK Γ) (ho : Opn G0) (hc : ∀ x, ([8, 49, 50, 51, 52, 53, 54, 55, 56, 57] : List Nat).elem x = true → G0.2 x = 0) (hz0 : Z9 I)
    (h : ∀ (I' : II) (G' : GG), Z9 I' → FrI nD I I' → GR G0 G' (PfRd 8) (dnRd 8) → Q none I' Lg (up3 R 0 0 0 (some 0)) G') : am_Sp Γ (d + 3) 42 729 mX9_init [vR 9 0] I Lg R G0 Q := by
  have hI0 : GR G0 G0 (fun _ _ _ => False) (fun _ => 0) := GR.rf
  have fr0 : FrI nD I I := FrI.rf
  refine am_runN vX9_init 400 _ rfl rfl rfl rfl ?_
  refine am_cnd (am_bop (hI0.opn ho 8)) (fun _ => ?_)
  have hq1 : G0.2 8 = 0 := (hI0.cnq (q := 0) (hc 8 rfl) rfl)
  rw [hq1]
  refine ar_ctor (M2 := mX8_init) (c := 8) (idx := 11) (host := "StormLoft") (k2 := 3) (n2 := 72) (k := 38) (n := 652) rfl rfl rfl ⟨(xok_at (i := 279) (by decide +kernel) (by decide +kernel)), rfl, by decide, by decide, by decide, by decide⟩ rfl rfl (nst hN (i := 277) (by decide +kernel) rfl) (xok_at (i := 278) (by decide +kernel) (by decide +kernel)) (xok_at (i := 108) (by decide +kernel) (by decide +kernel)) rfl (Nat.le_of_ble_eq_true rfl) (by decide +kernel) ?_
  refine s_Pinit (i := 0) ((hI0.new 8).opn ho) ((hI0.new 8).cnq (q := 0) (hc 49 rfl) rfl) ((hI0.new 8).cnq (q := 0) (hc 50 rfl) rfl) ((hI0.new 8).cnq (q := 0) (hc 51 rfl) rfl) hz0 (fun I1 H1 hz1 _ fq1 hP1 => ?_)
  have fr1 : FrI nD I I1 := fr0.tr (fq1.mono (V0_nD (by decide)))
  refine am_goN vX9_init 400 ?_
  refine And.intro ⟨rfl, rfl⟩ ?_
  have hI1 := ((hI0.new 8).tr hP1).put 9 0 0 (by decide)
  revert hI1
  generalize ((up3 H1.1 9 0 0 true, H1.2) : GG) = G1
  intro hI1
  refine ar_anew (c := 52) (a := 3) (N := 8) (x := 8) (y := 1) (t := 5) (idx := 9) (C := "StormLoft$Plan") (k := 37) (n := 644) (hI1.opn ho 52) rfl ⟨by decide, by decide⟩ rfl (by decide) (xok_at (i := 275) (by decide +kernel) (by decide +kernel)) (nst hN (i := 303) (by decide +kernel) rfl) (by decide +kernel) (fun _ => ?_)
  refine am_goN vX9_init 400 ?_
  refine And.intro ⟨rfl, (hI1.cnt (hc 52 rfl) rfl)⟩ ?_
  have hI2 := (hI1.new 52).put 9 0 1 (by decide)
  revert hI2
  generalize ((up3 (am_newG G1 52).1 9 0 1 true, (am_newG G1 52).2) : GG) = G2
  intro hI2
  refine am_cnd (am_bop (hI2.opn ho 53)) ⟨rfl, fun _ => ?_⟩
  refine And.intro ⟨rfl, (hI2.cnt (hc 53 rfl) rfl)⟩ ?_
  have hI3 := (hI2.new 53).put 9 0 2 (by decide)
  revert hI3
  generalize ((up3 (am_newG G2 53).1 9 0 2 true, (am_newG G2 53).2) : GG) = G3
  intro hI3
  refine am_cnd (am_bop (hI3.opn ho 54)) ⟨rfl, fun _ => ?_⟩
  refine And.intro ⟨rfl, (hI3.cnt (hc 54 rfl) rfl)⟩ ?_
  have hI4 := (hI3.new 54).put 9 0 3 (by decide)
  revert hI4
  generalize ((up3 (am_newG G3 54).1 9 0 3 true, (am_newG G3 54).2) : GG) = G4
  intro hI4
  refine fun y2 e2 I2 f2 => ?_
  have hz2 : Z9 I2 := by rw [f2]; exact hz1.up (Or.inr e2)
  have fr2 : FrI nD I I2 := by rw [f2]; exact fr1.up rfl
  refine am_cnd (hI4.2.2.2 9 0 0 (by simp)) ?_
  refine And.intro rfl ?_
  refine am_cnd (am_bop (hI4.opn ho 55)) ⟨rfl, fun _ => ?_⟩
  refine And.intro ⟨rfl, (hI4.cnt (hc 55 rfl) rfl)⟩ ?_
  have hI5 := (hI4.new 55).put 9 0 6 (by decide)
  revert hI5
  generalize ((up3 (am_newG G4 55).1 9 0 6 true, (am_newG G4 55).2) : GG) = G5
  intro hI5
  refine am_cnd (am_bop (hI5.opn ho 56)) ⟨rfl, fun _ => ?_⟩
  refine And.intro ⟨rfl, (hI5.cnt (hc 56 rfl) rfl)⟩ ?_
  have hI6 := (hI5.new 56).put 9 0 7 (by decide)
  revert hI6
  generalize ((up3 (am_newG G5 56).1 9 0 7 true, (am_newG G5 56).2) : GG) = G6
  intro hI6
  refine am_cnd (am_bop (hI6.opn ho 57)) ⟨rfl, fun _ => ?_⟩
  refine And.intro ⟨rfl, (hI6.cnt (hc 57 rfl) rfl)⟩ ?_
  have hI7 := (hI6.new 57).put 9 0 8 (by decide)
  revert hI7
  generalize ((up3 (am_newG G6 57).1 9 0 8 true, (am_newG G6 57).2) : GG) = G7
  intro hI7
  refine fun y3 e3 I3 f3 => ?_
  have hz3 : Z9 I3 := by rw [f3]; exact hz2.up (Or.inr e3)
  have fr3 : FrI nD I I3 := by rw [f3]; exact fr2.up rfl
  refine fun y4 e4 I4 f4 => ?_
  have hz4 : Z9 I4 := by rw [f4]; exact hz3.up (Or.inr e4)
  have fr4 : FrI nD I I4 := by rw [f4]; exact fr3.up rfl
  refine fun y5 e5 I5 f5 => ?_
  have hz5 : Z9 I5 := by rw [f5]; exact hz4.up (Or.inr e5)
  have fr5 : FrI nD I I5 := by rw [f5]; exact fr4.up rfl
  refine fun x1 ex1 => ?_
  refine rd_loop hN ho hc h 8 0 x1 I5 G7 rfl ex1 hz5 fr5 (hI7.sub (fun c j k q => ?_) (fun x => by show dnRd0 x = dnRd0 x + 0 * (d1 8 x + dnP x); rw [Nat.zero_mul]; rfl))
  rcases q with (q | ⟨-, q2, q3, -⟩) | ⟨-, -, q3⟩
  · exact q
  · omega
  · omega
