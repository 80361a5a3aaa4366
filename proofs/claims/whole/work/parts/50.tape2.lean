/-! The tape's bytes and the told ticks. -/
def TapeAt (I : II) (sz : Nat) (bs : Nat → Int) : Prop := I 39 0 0 = zI sz ∧ ∀ k, k < sz → I 123 0 k = zI (bs k)
def MTapeAt (I : II) (sz : Nat) (bs : Nat → Int) : Prop := I 48 0 0 = zI sz ∧ ∀ k, k < sz → I 125 0 k = zI (bs k)
def BSsok (sz : Nat) (bs : Nat → Int) : Prop := sz ≤ 640 ∧ ∀ k, 0 ≤ bs k ∧ bs k ≤ 255
theorem TapeAt.fr {I I' : II} {P : Nat → Nat → Bool} {sz : Nat} {bs : Nat → Int} (h : TapeAt I sz bs) (hf : FrI P I I') (h1 : P 39 0 = false) (h2 : P 123 0 = false) : TapeAt I' sz bs := ⟨by rw [hf _ _ h1]; exact h.1, fun k hk => by rw [hf _ _ h2]; exact h.2 k hk⟩
theorem MTapeAt.fr {I I' : II} {P : Nat → Nat → Bool} {sz : Nat} {bs : Nat → Int} (h : MTapeAt I sz bs) (hf : FrI P I I') (h1 : P 48 0 = false) (h2 : P 125 0 = false) : MTapeAt I' sz bs := ⟨by rw [hf _ _ h1]; exact h.1, fun k hk => by rw [hf _ _ h2]; exact h.2 k hk⟩
set_option maxRecDepth 100000 in
theorem s_byteAt {Γ : AMG} {Q : QQ} {d : Nat} {x : Int32} {p : Int} {I : II} {Lg : LJ} {R : RR} {gc : Nat → Nat} {sz : Nat} {bs : Nat → Int} (hb : BSsok sz bs) (ht : TapeAt I sz bs) (hx : x = zI p) (h0 : -1000000 ≤ p) (h1 : p ≤ 1000000)
    (hy : 0 ≤ p → p < sz → Q (some (vI (zI (bs p.toNat)))) I Lg R (GM gc)) (hn : (p < 0 ∨ (sz : Int) ≤ p) → Q (some (vI (zI 0))) I Lg R (GM gc)) : am_Sp Γ d 0 0 mX10_byteAt [vR 10 0, vI x] I Lg R (GM gc) Q := by
  have hsz := hb.1
  have hxt : x.toInt = p := by rw [hx, zI_toInt (by omega) (by omega)]
  have hst : (I 39 0 0).toInt = sz := by rw [ht.1, zI_toInt (by omega) (by omega)]
  refine am_run vX10_byteAt 60 _ rfl rfl rfl rfl ?_
  refine And.intro (fun c => ?_) (fun c => ?_)
  · exact hn (by omega)
  · refine And.intro (fun c2 => ?_) (fun c2 => ?_)
    · exact hn (by omega)
    · refine And.intro (fun c3 => ?_) (fun c3 => ?_)
      · rw [zI_toInt (by omega) (by omega)] at c3
        omega
      · refine And.intro ⟨by omega, by omega⟩ ?_
        rw [hxt, ht.2 p.toNat (by omega)]
        exact hy (by omega) (by omega)
theorem s_byteAtE {Γ : AMG} {Q : QQ} {d k : Nat} {x : Int32} {I : II} {Lg : LJ} {R : RR} {gc : Nat → Nat} {sz : Nat} {bs : Nat → Int} (hb : BSsok sz bs) (ht : TapeAt I sz bs) (hx : x = zI k) (hk : k < sz)
    (hy : Q (some (vI (zI (bs k)))) I Lg R (GM gc)) : am_Sp Γ d 0 0 mX10_byteAt [vR 10 0, vI x] I Lg R (GM gc) Q := by
  have hsz := hb.1
  refine s_byteAt hb ht hx (by omega) (by omega) (fun _ _ => ?_) (fun h => ?_)
  · rw [Int.toNat_natCast]; exact hy
  · omega
def tkv (bs : Nat → Int) (k : Nat) : Int := 256 * bs (2 * k) + bs (2 * k + 1)
def tkOk (sz : Nat) (bs : Nat → Int) : Prop := sz % 2 = 0 ∧ sz ≤ 20 ∧ ∀ k, 2 * (k + 1) < sz → tkv bs k < tkv bs (k + 1)
theorem tkv_rng {sz : Nat} {bs : Nat → Int} (h : BSsok sz bs) (k : Nat) : 0 ≤ tkv bs k ∧ tkv bs k ≤ 65535 := by
  have h1 := h.2 (2 * k)
  have h2 := h.2 (2 * k + 1)
  unfold tkv
  omega
set_option maxRecDepth 100000 in
theorem readTicks_loop {Γ : AMG} {Q : QQ} {d : Nat} {I : II} {Lg : LJ} {R : RR} {gc : Nat → Nat} {sz : Nat} {bs : Nat → Int} (hb : BSsok sz bs) (ht : TapeAt I sz bs) (h2 : sz % 2 = 0) (h20 : sz ≤ 20)
    (hy : tkOk sz bs → ∀ I' : II, FrI (V0 [40, 124]) I I' → I' 40 0 0 = zI (sz / 2 : Nat) → (∀ k, k < sz / 2 → I' 124 0 k = zI (tkv bs k)) → Q (some (vI (zI 1))) I' Lg R (GM gc))
    (hn : ¬ tkOk sz bs → ∀ I' : II, FrI (V0 [40, 124]) I I' → Q (some (vI (zI 0))) I' Lg R (GM gc)) :
    ∀ (m k : Nat) (x1 x2 : Int32) (l3 : Option AV) (I1 : II), 2 * (k + m) = sz → x2 = zI k → x1 = zI (if k = 0 then -1 else tkv bs (k - 1)) → FrI (V0 [40, 124]) I I1 → I1 40 0 0 = zI k → (∀ j, j < k → I1 124 0 j = zI (tkv bs j)) → (∀ j, j + 1 < k → tkv bs j < tkv bs (j + 1)) →
      am_J Γ mX10_readTicks Q (d + 1) 0 0 29 [some (vR 10 0), some (vI x1), some (vI x2), l3] [] I1 Lg R (GM gc) := by
  have done : ∀ (k : Nat) (I1 : II), 2 * k = sz → FrI (V0 [40, 124]) I I1 → I1 40 0 0 = zI k → (∀ j, j < k → I1 124 0 j = zI (tkv bs j)) → (∀ j, j + 1 < k → tkv bs j < tkv bs (j + 1)) → Q (some (vI (zI 1))) I1 Lg R (GM gc) := by
    intro k I1 hk hf hc ha hi
    have hk2 : sz / 2 = k := by omega
    exact hy ⟨h2, h20, fun j hj => hi j (by omega)⟩ I1 hf (by rw [hk2]; exact hc) (by rw [hk2]; exact ha)
  intro m
  induction m with
  | zero =>
    intro k x1 x2 l3 I1 hk hx2 hx1 hf hc ha hi
    have hst : (I1 39 0 0).toInt = sz := by rw [hf _ _ rfl, ht.1, zI_toInt (by omega) (by omega)]
    refine am_goN vX10_readTicks 60 ?_
    refine And.intro (fun c => ?_) (fun c => ?_)
    · exact Or.inr rfl |> fun z => ⟨z, done k I1 (by omega) hf hc ha hi⟩
    · refine And.intro (fun c2 => ?_) (fun c2 => ?_)
      · exact ⟨Or.inr rfl, done k I1 (by omega) hf hc ha hi⟩
      · rw [hx2, zI_mul, zI_toInt (by omega) (by omega), hst] at c2
        omega
  | succ m ih =>
    intro k x1 x2 l3 I1 hk hx2 hx1 hf hc ha hi
    have hst : (I1 39 0 0).toInt = sz := by rw [hf _ _ rfl, ht.1, zI_toInt (by omega) (by omega)]
    have hx2t : x2.toInt = k := by rw [hx2, zI_toInt (by omega) (by omega)]
    have ht1 : TapeAt I1 sz bs := ht.fr hf rfl rfl
    have hv := tkv_rng hb k
    have hv1 := tkv_rng hb (k - 1)
    refine am_J.er [true, true, true, false] ?_
    refine am_goN vX10_readTicks 80 ?_
    refine And.intro (fun c => ?_) (fun c => ?_)
    · rw [hx2t, zI_toInt (by omega) (by omega)] at c
      omega
    refine And.intro (fun c2 => ?_) (fun c2 => ?_)
    · rw [hx2, zI_mul, zI_toInt (by omega) (by omega), hst] at c2
      omega
    refine s_byteAtE (k := 2 * k) hb ht1 (by rw [hx2, zI_mul]; congr 1) (by omega) ?_
    refine s_byteAtE (k := 2 * k + 1) hb ht1 (by rw [hx2, zI_mul, zI_add]; congr 1) (by omega) ?_
    refine fun x3 ex3 => ?_
    have h3 : x3 = zI (tkv bs k) := by rw [ex3, zI_mul, zI_add]; unfold tkv; congr 1; omega
    have hx3t : x3.toInt = tkv bs k := by rw [h3, zI_toInt (by omega) (by omega)]
    have hx1t : x1.toInt = if k = 0 then -1 else tkv bs (k - 1) := by rw [hx1, zI_toInt (by split <;> omega) (by split <;> omega)]
    refine And.intro (fun c3 => ?_) (fun c3 => ?_)
    · rw [hx3t, hx1t] at c3
      refine And.intro ⟨by omega, by omega⟩ ?_
      refine fun y1 ey1 I2 e2 y2 ey2 I3 e3 x1' ex1 x2' ex2' => ?_
      rw [hx2t, Int.toNat_natCast] at e2
      refine ih (k + 1) x1' x2' _ I3 (by omega) (by rw [ex2', hx2, zI_add]; congr 1) (by rw [ex1, h3, if_neg (by omega), Nat.add_sub_cancel]) (by rw [e3, e2]; exact (hf.up rfl).up rfl) (by rw [e3, up3_s, ey2, hx2, zI_add]; congr 1) (fun j hj => ?_) (fun j hj => ?_)
      · rw [e3, up3_v _ (by decide), e2]
        by_cases hjk : j = k
        · rw [hjk, up3_s, ey1, h3]
        · rw [up3_j _ hjk]; exact ha j (by omega)
      · by_cases hjk : j + 1 = k
        · have : k - 1 = j := by omega
          rw [if_neg (by omega), this] at c3
          rw [hjk]
          omega
        · exact hi j (by omega)
    · rw [hx3t, hx1t] at c3
      refine ⟨Or.inl rfl, hn (fun q => ?_) I1 hf⟩
      by_cases hk0 : k = 0
      · rw [if_pos hk0] at c3; omega
      · rw [if_neg hk0] at c3
        have := q.2.2 (k - 1) (by omega)
        rw [show k - 1 + 1 = k by omega] at this
        omega
set_option maxRecDepth 100000 in
theorem s_readTicks {Γ : AMG} {Q : QQ} {d : Nat} {I : II} {Lg : LJ} {R : RR} {gc : Nat → Nat} {sz : Nat} {bs : Nat → Int} (hb : BSsok sz bs) (ht : TapeAt I sz bs)
    (hy : tkOk sz bs → ∀ I' : II, FrI (V0 [40, 124]) I I' → I' 40 0 0 = zI (sz / 2 : Nat) → (∀ k, k < sz / 2 → I' 124 0 k = zI (tkv bs k)) → Q (some (vI (zI 1))) I' Lg R (GM gc))
    (hn : ¬ tkOk sz bs → ∀ I' : II, FrI (V0 [40, 124]) I I' → Q (some (vI (zI 0))) I' Lg R (GM gc)) :
    am_Sp Γ (d + 1) 0 0 mX10_readTicks [vR 10 0] I Lg R (GM gc) Q := by
  have hsz := hb.1
  refine am_runN vX10_readTicks 60 _ rfl rfl rfl rfl ?_
  refine fun y1 ey1 I1 e1 => ?_
  have hf : FrI (V0 [40, 124]) I I1 := by rw [e1]; exact FrI.rf.up rfl
  have hs1 : I1 39 0 0 = zI sz := by rw [hf _ _ rfl]; exact ht.1
  refine And.intro (by rw [zI_toInt (by omega) (by omega)]; omega) ?_
  refine And.intro (fun c => ?_) (fun c => ?_)
  · rw [hs1, zI_remN (by omega) (by omega) (by omega) (by omega), zI_toInt (by omega) (by omega)] at c
    exact ⟨Or.inl rfl, hn (fun q => by have := q.1; omega) I1 hf⟩
  · rw [hs1, zI_remN (by omega) (by omega) (by omega) (by omega), zI_toInt (by omega) (by omega)] at c
    refine And.intro (fun c2 => ?_) (fun c2 => ?_)
    · rw [hs1, zI_toInt (by omega) (by omega), zI_toInt (by omega) (by omega)] at c2
      refine fun x1 ex1 x2 ex2 => ?_
      exact readTicks_loop hb ht (by omega) (by omega) hy hn (sz / 2) 0 x1 x2 _ I1 (by omega) ex2 (by rw [ex1]; rfl) hf (by rw [e1, up3_s, ey1]; rfl) (fun j hj => by omega) (fun j hj => by omega)
    · rw [hs1, zI_toInt (by omega) (by omega), zI_toInt (by omega) (by omega)] at c2
      exact ⟨Or.inl rfl, hn (fun q => by have := q.2.1; omega) I1 hf⟩
