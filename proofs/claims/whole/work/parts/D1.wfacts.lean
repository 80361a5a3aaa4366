/-! Worn steps: the leaves of the search explain, and whatever explains has a leaf. -/
def pcn (x : Nat) : Nat → Nat
  | 0 => 0
  | k + 1 => pcn x k + (x.testBit k).toNat
abbrev pop (x : Nat) : Nat := pcn x 12
theorem tb_add {ch p : Nat} (h : ch < 2 ^ p) (j : Nat) : (ch + 2 ^ p).testBit j = (ch.testBit j || j == p) := by
  rw [Nat.add_comm]
  rcases Nat.lt_trichotomy j p with q | q | q
  · rw [Nat.testBit_two_pow_add_gt q, beq_eq_false_iff_ne.mpr (by omega), Bool.or_false]
  · subst q
    rw [Nat.testBit_two_pow_add_eq, Nat.testBit_lt_two_pow h]
    simp
  · have h2 : (2 : Nat) ^ (p + 1) ≤ 2 ^ j := Nat.pow_le_pow_right (by omega) q
    rw [Nat.pow_succ] at h2
    rw [Nat.testBit_lt_two_pow (show 2 ^ p + ch < 2 ^ j by omega), Nat.testBit_lt_two_pow (show ch < 2 ^ j by omega), beq_eq_false_iff_ne.mpr (by omega)]
    rfl
theorem pcn_add {ch p : Nat} (h : ch < 2 ^ p) : ∀ k : Nat, pcn (ch + 2 ^ p) k = pcn ch k + if p < k then 1 else 0
  | 0 => by rw [if_neg (by omega)]; rfl
  | k + 1 => by
    show pcn (ch + 2 ^ p) k + ((ch + 2 ^ p).testBit k).toNat = pcn ch k + (ch.testBit k).toNat + _
    rw [pcn_add h k, tb_add h]
    rcases Nat.lt_trichotomy k p with q | q | q
    · rw [if_neg (by omega), if_neg (by omega), beq_eq_false_iff_ne.mpr (by omega), Bool.or_false]
      omega
    · subst q
      rw [if_neg (by omega), if_pos (by omega), Nat.testBit_lt_two_pow h]
      simp
    · rw [if_pos q, if_pos (by omega), beq_eq_false_iff_ne.mpr (by omega), Bool.or_false]
      omega
theorem pcn_sub {a b : Nat} (h : ∀ q, a.testBit q = true → b.testBit q = true) : ∀ k : Nat, pcn a k ≤ pcn b k ∧ (pcn a k = pcn b k → ∀ q, q < k → a.testBit q = b.testBit q)
  | 0 => ⟨Nat.le_refl _, fun _ q hq => absurd hq (by omega)⟩
  | k + 1 => by
    obtain ⟨h1, h2⟩ := pcn_sub h k
    have hk := h k
    show pcn a k + (a.testBit k).toNat ≤ pcn b k + (b.testBit k).toNat ∧ (pcn a k + (a.testBit k).toNat = pcn b k + (b.testBit k).toNat → _)
    cases ha : a.testBit k with
    | true =>
      rw [hk ha]
      refine ⟨by simp only [Bool.toNat_true]; omega, fun he q hq => ?_⟩
      by_cases z : q = k
      · subst z; rw [ha, hk ha]
      · exact h2 (by omega) q (by omega)
    | false =>
      cases hb : b.testBit k with
      | true => exact ⟨by simp only [Bool.toNat_true, Bool.toNat_false]; omega, fun he => by simp only [Bool.toNat_true, Bool.toNat_false] at he; omega⟩
      | false =>
        refine ⟨by omega, fun he q hq => ?_⟩
        by_cases z : q = k
        · subst z; rw [ha, hb]
        · exact h2 (by omega) q (by omega)
def lsM (M : Nat) : Nat → Int := fun p => if M.testBit p = true then 1 else 0
theorem lsM_ok (M : Nat) : LSok (lsM M) := fun p => by unfold lsM; split <;> omega
def plN (rn : RUN) (pl : Int) : Nat := if pl = 255 then rn.length else pl.toNat
def WS (rn : RUN) (nW : Nat) (W : Nat → Int) (w : CRW) : Prop := (0 ≤ w.1 ∧ w.1 ≤ 2000) ∧ (w.2.1 = 255 ∨ BSok2 rn w.2.1 w.2.2.1 w.2.2.2.1) ∧ 0 ≤ w.2.2.2.2.1 ∧ (w.2.2.2.2.1 < nW → w.1 ≤ W w.2.2.2.2.1.toNat)
def Winc (nW : Nat) (W : Nat → Int) : Prop := ∀ k, k + 1 < nW → W k < W (k + 1)
theorem Winc.lt {nW : Nat} {W : Nat → Int} (h : Winc nW W) {j : Nat} : ∀ (m : Nat), j + m + 1 < nW → W j < W (j + m + 1)
  | 0, hm => h j hm
  | m + 1, hm => by
    have h1 := Winc.lt h (j := j) m (by omega)
    have h2 := h (j + m + 1) hm
    rw [show j + (m + 1) + 1 = j + m + 1 + 1 by omega]
    omega
theorem Winc.lt2 {nW : Nat} {W : Nat → Int} (h : Winc nW W) {j k : Nat} (hj : j < k) (hk : k < nW) : W j < W k := by
  have := h.lt (j := j) (k - j - 1) (by omega)
  rwa [show j + (k - j - 1) + 1 = k by omega] at this
/-- what a step of the search is -/
theorem wroll_some {rn : RUN} {nW : Nat} {W : Nat → Int} {w : CRW} {b : BD} {t p s : Int} (hrn : RUNok rn) (hw : WS rn nW W w) (hkn : w.2.2.2.2.1 < nW) (h : wroll rn W w = some (b, t, p, s)) :
    w.2.1 ≠ 255 ∧ BSok2 rn w.2.1 w.2.2.1 w.2.2.2.1 ∧ (∃ e, rn[w.2.1.toNat]? = some e ∧ e.1 = b) ∧ BDok b ∧ rolE b (2000 - w.1).toNat w.1 w.2.2.1 w.2.2.2.1 = some (t, p, s) ∧ w.1 < t ∧ t ≤ 2000 ∧ t ≤ W w.2.2.2.2.1.toNat ∧ b.1 ≤ p ∧ p ≤ b.1 + 1023 ∧ 0 ≤ s ∧ s ≤ 1023 := by
  obtain ⟨⟨t0, t1⟩, hb, k0, hk⟩ := hw
  have hk := hk hkn
  unfold wroll at h
  cases hx : rn[w.2.1.toNat]? with
  | none => rw [hx] at h; cases h
  | some e =>
    rw [hx] at h
    dsimp only at h
    cases hr : rolE e.1 (min 2000 (W w.2.2.2.2.1.toNat) - w.1).toNat w.1 w.2.2.1 w.2.2.2.1 with
    | none => rw [hr] at h; cases h
    | some y =>
      rw [hr] at h
      cases h
      have hl := (List.getElem?_eq_some_iff.mp hx).1
      have hlen := hrn.1
      have hne : w.2.1 ≠ 255 := fun q => by rw [q] at hl; have : (255 : Int).toNat = 255 := rfl; omega
      have hb2 := hb.resolve_left hne
      have hbok := (hrn.2 _ e hx).1
      obtain ⟨⟨g1, g2, g3, g4, g5, g6⟩, g7⟩ := hb2
      have hpt := g7 e hx
      obtain ⟨o1, o2, o3, o4, o5, o6⟩ := rolE_ok hbok _ _ _ _ _ _ _ g3 hpt hr
      exact ⟨hne, hb.resolve_left hne, ⟨e, rfl, rfl⟩, hbok, rolE_more _ _ _ _ _ _ _ _ hr (by omega), o1, by omega, by omega, o3, o4, o5, o6⟩
theorem leave_ok {rn : RUN} {nW : Nat} {W : Nat → Int} {w : CRW} {b : BD} {t p s u : Int} (hrn : RUNok rn) (hW : Winc nW W) (hw : WS rn nW W w) (hkn : w.2.2.2.2.1 < nW) (h : wroll rn W w = some (b, t, p, s)) (hu0 : 0 ≤ b.2.2.2.1 - u) (hu1 : b.2.2.2.1 - u ≤ 9) :
    WS rn nW W (leaveR rn W w b t p s u) ∧ w.2.1.toNat < plN rn (leaveR rn W w b t p s u).2.1 ∧ plN rn (leaveR rn W w b t p s u).2.1 ≤ rn.length ∧ plN rn w.2.1 = w.2.1.toNat ∧ w.2.1.toNat < rn.length := by
  obtain ⟨hne, hb2, ⟨e, he, rfl⟩, hbok, hr, t1, t2, t3, p1, p2, s1, s2⟩ := wroll_some hrn hw hkn h
  obtain ⟨⟨g1, g2, g3, g4, g5, g6⟩, g7⟩ := hb2
  have hlen := hrn.1
  have hd := hbok.2.2.2.2.2.2
  have hlr := lvS_rng hbok s1
  have hbo := hbok.2.1
  have hlp := lvP_rng (p := p) hbok hu0 hu1 s1 s2 p1 (by omega)
  have hx := nx_ok (g := zI 0) hrn g1 he
  have hland := land_ok (g := zI 0) hrn 12 (nx rn (zI 0) w.2.1) (lvP e.1 (e.1.2.2.2.1 - u) p s) (by omega) hlp.1
  have hpl : (leaveR rn W w e.1 t p s u).2.1 = 255 ∨ (w.2.1 < (leaveR rn W w e.1 t p s u).2.1 ∧ (leaveR rn W w e.1 t p s u).2.1 < rn.length ∧ 0 ≤ (leaveR rn W w e.1 t p s u).2.2.1) := by
    rcases hland with q | ⟨q1, q2, q3, q4⟩
    · exact Or.inl q
    · by_cases z : nx rn (zI 0) w.2.1 = 255
      · rw [z, land_255 hlen] at q2
        clear q4
        omega
      · clear q4
        refine Or.inr ⟨?_, q2, q3⟩
        show w.2.1 < (land rn (zI 0) 12 (nx rn (zI 0) w.2.1) (lvP e.1 (e.1.2.2.2.1 - u) p s)).1
        omega
  have hpe : (leaveR rn W w e.1 t p s u).2.1 ≠ 255 → ∃ e', rn[(leaveR rn W w e.1 t p s u).2.1.toNat]? = some e' ∧ (leaveR rn W w e.1 t p s u).2.2.1 < e'.1.1 := fun hz => by
    rcases hland with q | ⟨-, -, -, q4⟩
    · exact absurd q hz
    · exact q4
  clear hland hx
  have hsp : (leaveR rn W w e.1 t p s u).2.2.2.1 = lvS e.1 s := rfl
  have hknv : (leaveR rn W w e.1 t p s u).2.2.2.2.1 = if 0 < lvK (e.1.2.2.2.1 - u) s ∧ t = W w.2.2.2.2.1.toNat then w.2.2.2.2.1 + 1 else w.2.2.2.2.1 := rfl
  have htv : (leaveR rn W w e.1 t p s u).1 = t := rfl
  generalize hL : leaveR rn W w e.1 t p s u = L at *
  have k0 := hw.2.2.1
  have tt0 := hw.1
  refine ⟨⟨⟨by omega, by omega⟩, ?_, ?_, ?_⟩, ?_, ?_, ?_, by omega⟩
  · rcases hpl with q | ⟨q1, q2, q3⟩
    · exact Or.inl q
    · obtain ⟨e', q4, q5⟩ := hpe (by omega)
      have hb' := (hrn.2 _ e' q4).1
      have := hb'.2.1
      refine Or.inr ⟨⟨by omega, q2, q3, by omega, by omega, by omega⟩, fun e2 h2 => ?_⟩
      rw [q4] at h2
      cases h2
      exact q5
  · rw [hknv]
    split <;> omega
  · intro hlt
    rw [htv]
    rw [hknv] at hlt ⊢
    split
    · next z =>
      rw [if_pos z] at hlt
      have := hW.lt2 (j := w.2.2.2.2.1.toNat) (k := (w.2.2.2.2.1 + 1).toNat) (by omega) (by omega)
      omega
    · exact t3
  · unfold plN
    rcases hpl with q | ⟨q1, q2, -⟩
    · rw [if_pos q]; omega
    · split
      · omega
      · omega
  · unfold plN
    rcases hpl with q | ⟨q1, q2, -⟩
    · rw [if_pos q]; omega
    · split <;> omega
  · unfold plN
    rw [if_neg hne]
