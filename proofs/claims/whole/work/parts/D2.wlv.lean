/-! Worn steps: what the leaves are. -/
abbrev KT (rn : RUN) (M : Nat) (w : CRW) : List Int := knT rn (zI 0) (lsM M) (2000 - w.1).toNat (w.1 + 1) w.2.1 w.2.2.1 w.2.2.2.1
/-- the ticks of the knocks, a place left -/
theorem KT_step {rn : RUN} {nW : Nat} {W : Nat → Int} {w : CRW} {b : BD} {t p s u : Int} {M : Nat} (hrn : RUNok rn) (hw : WS rn nW W w) (hkn : w.2.2.2.2.1 < nW) (h : wroll rn W w = some (b, t, p, s)) (hu : max 0 (b.2.2.2.1 - lsM M w.2.1.toNat) = b.2.2.2.1 - u) :
    KT rn M w = (if 0 < lvK (b.2.2.2.1 - u) s then [t] else []) ++ KT rn M (leaveR rn W w b t p s u) := by
  obtain ⟨hne, hb2, ⟨e, he, rfl⟩, hbok, hr, t1, t2, t3, p1, p2, s1, s2⟩ := wroll_some hrn hw hkn h
  have h0 := hb2.1.1
  have hl := (List.getElem?_eq_some_iff.mp he).1
  have hlen := hrn.1
  have := (knT_rol (g := zI 0) (ls := lsM M) he (by omega) (2000 - w.1).toNat w.1 w.2.2.1 w.2.2.2.1).2 t p s hr
  have hpl : ((w.2.1.toNat : Nat) : Int) = w.2.1 := by omega
  rw [hpl] at this
  show knT rn (zI 0) (lsM M) (2000 - w.1).toNat (w.1 + 1) w.2.1 w.2.2.1 w.2.2.2.1 = _
  rw [this, hu, show (2000 - w.1).toNat - (t - w.1).toNat = (2000 - t).toNat by omega]
  rfl
/-- the ticks of the knocks, where no place is left -/
theorem KT_none {rn : RUN} {nW : Nat} {W : Nat → Int} {w : CRW} {M : Nat} (hrn : RUNok rn) (hw : WS rn nW W w) (hkn : w.2.2.2.2.1 < nW) (h : wroll rn W w = none) : ¬ W w.2.2.2.2.1.toNat ∈ KT rn M w := by
  intro hin
  obtain ⟨⟨t0, t1⟩, hb, k0, hk⟩ := hw
  have hk := hk hkn
  have hlen := hrn.1
  by_cases q : w.2.1 = 255
  · have : KT rn M w = [] := by
      show knT rn (zI 0) (lsM M) (2000 - w.1).toNat (w.1 + 1) w.2.1 w.2.2.1 w.2.2.2.1 = _
      rw [q]
      exact knT_255 _
    rw [this] at hin
    cases hin
  · obtain ⟨⟨g1, g2, g3, g4, g5, g6⟩, g7⟩ := hb.resolve_left q
    have hx : rn[w.2.1.toNat]? = some rn[w.2.1.toNat] := List.getElem?_eq_getElem (by omega)
    generalize rn[w.2.1.toNat] = e at hx
    unfold wroll at h
    rw [hx] at h
    dsimp only at h
    have hr : rolE e.1 (min 2000 (W w.2.2.2.2.1.toNat) - w.1).toNat w.1 w.2.2.1 w.2.2.2.1 = none := by
      cases hz : rolE e.1 (min 2000 (W w.2.2.2.2.1.toNat) - w.1).toNat w.1 w.2.2.1 w.2.2.2.1 with
      | none => rfl
      | some y => rw [hz] at h; cases h
    obtain ⟨r1, r2⟩ := knT_rol (g := zI 0) (ls := lsM M) hx (by omega) (2000 - w.1).toNat w.1 w.2.2.1 w.2.2.2.1
    rw [show ((w.2.1.toNat : Nat) : Int) = w.2.1 by omega] at r1 r2
    cases hy : rolE e.1 (2000 - w.1).toNat w.1 w.2.2.1 w.2.2.2.1 with
    | none =>
      have : KT rn M w = [] := r1 hy
      rw [this] at hin
      cases hin
    | some y =>
      obtain ⟨t, p, s⟩ := y
      have hg := rolE_gt _ _ _ _ _ _ _ hy
      have hle : ¬ t ≤ W w.2.2.2.2.1.toNat := fun z => by
        have := rolE_less _ (min 2000 (W w.2.2.2.2.1.toNat) - w.1).toNat _ _ _ _ _ _ hy (by omega)
        rw [hr] at this
        cases this
      have := r2 t p s hy
      have hin : W w.2.2.2.2.1.toNat ∈ knT rn (zI 0) (lsM M) (2000 - w.1).toNat (w.1 + 1) w.2.1 w.2.2.1 w.2.2.2.1 := hin
      rw [this] at hin
      rcases List.mem_append.mp hin with hin | hin
      · split at hin
        · have := List.mem_singleton.mp hin
          omega
        · cases hin
      · have := knT_gt _ _ _ _ _ _ hin
        omega
theorem lsM_t {M p : Nat} (h : M.testBit p = true) : lsM M p = 1 := if_pos h
theorem lsM_f {M p : Nat} (h : M.testBit p = false) : lsM M p = 0 := if_neg (by rw [h]; exact Bool.false_ne_true)
/-- a leaf: its bits, its sum, and that it explains -/
theorem wlv_expl {rn : RUN} {nW : Nat} {W : Nat → Int} (hrn : RUNok rn) (hW : Winc nW W) : ∀ (f : Nat) (w : CRW) (ch : Nat) (x : Int × Nat), WS rn nW W w → ch < 2 ^ plN rn w.2.1 → plN rn w.2.1 ≤ rn.length → x ∈ wlv rn nW W f w ch →
    x.2 < 2 ^ rn.length ∧ (∀ q, q < plN rn w.2.1 → x.2.testBit q = ch.testBit q) ∧ x.1 = w.2.2.2.2.2 + pop x.2 - pop ch ∧ ∀ M : Nat, (∀ q, plN rn w.2.1 ≤ q → M.testBit q = x.2.testBit q) → ∀ k : Nat, w.2.2.2.2.1 ≤ k → k < nW → W k ∈ KT rn M w
  | 0, _, _, _, _, _, _, h => by cases h
  | f + 1, w, ch, x, hw, hch, hpl, h => by
    have k0 := hw.2.2.1
    unfold wlv at h
    by_cases q : (nW : Int) ≤ w.2.2.2.2.1
    · rw [if_pos q] at h
      rw [List.mem_singleton.mp h]
      refine ⟨Nat.lt_of_lt_of_le hch (Nat.pow_le_pow_right (by omega) hpl), fun _ _ => rfl, ?_, fun M _ k h1 h2 => ?_⟩
      · dsimp only; omega
      · omega
    · rw [if_neg q] at h
      have hkn : w.2.2.2.2.1 < nW := by omega
      cases hr : wroll rn W w with
      | none => rw [hr] at h; cases h
      | some y =>
        obtain ⟨b, t, p, s⟩ := y
        rw [hr] at h
        dsimp only at h
        have hwr := wroll_some hrn hw hkn hr
        obtain ⟨-, -, -, hbok, -⟩ := hwr
        have hd := hbok.2.2.2.2.2.2
        -- what the next place gives
        have fin : ∀ (u : Int) (M : Nat), max 0 (b.2.2.2.1 - lsM M w.2.1.toNat) = b.2.2.2.1 - u → (∀ k : Nat, (leaveR rn W w b t p s u).2.2.2.2.1 ≤ k → k < nW → W k ∈ KT rn M (leaveR rn W w b t p s u)) → ∀ k : Nat, w.2.2.2.2.1 ≤ k → k < nW → W k ∈ KT rn M w := fun u M hu hk k h1 h2 => by
          rw [KT_step hrn hw hkn hr hu]
          have hknv : (leaveR rn W w b t p s u).2.2.2.2.1 = if 0 < lvK (b.2.2.2.1 - u) s ∧ t = W w.2.2.2.2.1.toNat then w.2.2.2.2.1 + 1 else w.2.2.2.2.1 := rfl
          by_cases z : (leaveR rn W w b t p s u).2.2.2.2.1 ≤ k
          · exact List.mem_append_right _ (hk k z h2)
          · rw [hknv] at z
            split at z
            · next z2 =>
              refine List.mem_append_left _ ?_
              rw [if_pos z2.1, show k = w.2.2.2.2.1.toNat by omega, z2.2]
              exact List.mem_singleton.mpr rfl
            · omega
        rcases List.mem_append.mp h with h | h
        · split at h
          · next hdr =>
            obtain ⟨w1, w2, w3, w4, w5⟩ := leave_ok (u := 1) hrn hW hw hkn hr (by omega) (by omega)
            rw [w4] at hch hpl ⊢
            have hch1 : ch + 2 ^ w.2.1.toNat < 2 ^ plN rn (leaveR rn W w b t p s 1).2.1 := by
              have h2 : (2 : Nat) ^ (w.2.1.toNat + 1) ≤ 2 ^ plN rn (leaveR rn W w b t p s 1).2.1 := Nat.pow_le_pow_right (by omega) w2
              rw [Nat.pow_succ] at h2
              omega
            obtain ⟨i1, i2, i3, i4⟩ := wlv_expl hrn hW f _ _ x w1 hch1 w3 h
            have hbit : x.2.testBit w.2.1.toNat = true := by
              rw [i2 _ w2, tb_add hch]
              simp
            refine ⟨i1, fun j hj => ?_, ?_, fun M hM k h1 h2 => ?_⟩
            · rw [i2 j (by omega), tb_add hch, beq_eq_false_iff_ne.mpr (by omega), Bool.or_false]
            · have e : (leaveR rn W w b t p s 1).2.2.2.2.2 = w.2.2.2.2.2 + 1 := rfl
              have hl := hrn.1
              have hpc := pcn_add hch 12
              rw [if_pos (by omega)] at hpc
              rw [e] at i3
              rw [i3]
              show _ + _ - ((pcn (ch + 2 ^ w.2.1.toNat) 12 : Nat) : Int) = _ + _ - ((pcn ch 12 : Nat) : Int)
              rw [hpc]
              omega
            · refine fin 1 M ?_ (i4 M (fun j hj => hM j (by omega))) k h1 h2
              rw [lsM_t (by rw [hM _ (Nat.le_refl _)]; exact hbit)]
              omega
          · cases h
        · obtain ⟨w1, w2, w3, w4, w5⟩ := leave_ok (u := 0) hrn hW hw hkn hr (by omega) (by omega)
          rw [w4] at hch hpl ⊢
          have hch1 : ch < 2 ^ plN rn (leaveR rn W w b t p s 0).2.1 := Nat.lt_of_lt_of_le hch (Nat.pow_le_pow_right (by omega) (by omega))
          obtain ⟨i1, i2, i3, i4⟩ := wlv_expl hrn hW f _ _ x w1 hch1 w3 h
          have hbit : x.2.testBit w.2.1.toNat = false := by
            rw [i2 _ w2]
            exact Nat.testBit_lt_two_pow hch
          refine ⟨i1, fun j hj => i2 j (by omega), ?_, fun M hM k h1 h2 => ?_⟩
          · have e : (leaveR rn W w b t p s 0).2.2.2.2.2 = w.2.2.2.2.2 + 0 := rfl
            rw [e] at i3
            omega
          · refine fin 0 M ?_ (i4 M (fun j hj => hM j (by omega))) k h1 h2
            rw [lsM_f (by rw [hM _ (Nat.le_refl _)]; exact hbit)]
            omega
/-- what explains has a leaf -/
theorem wlv_has {rn : RUN} {nW : Nat} {W : Nat → Int} (hrn : RUNok rn) (hW : Winc nW W) {M : Nat} : ∀ (f : Nat) (w : CRW) (ch : Nat), WS rn nW W w → rn.length + 1 ≤ f + plN rn w.2.1 → plN rn w.2.1 ≤ rn.length → ch < 2 ^ plN rn w.2.1 → (∀ k : Nat, w.2.2.2.2.1 ≤ k → k < nW → W k ∈ KT rn M w) → ∃ x ∈ wlv rn nW W f w ch, ∀ q, plN rn w.2.1 ≤ q → x.2.testBit q = true → M.testBit q = true
  | 0, w, ch, hw, hf, hpl, hch, h => by omega
  | f + 1, w, ch, hw, hf, hpl, hch, h => by
    have k0 := hw.2.2.1
    unfold wlv
    by_cases q : (nW : Int) ≤ w.2.2.2.2.1
    · rw [if_pos q]
      refine ⟨_, List.mem_singleton.mpr rfl, fun j hj hb => ?_⟩
      have : ch < 2 ^ j := Nat.lt_of_lt_of_le hch (Nat.pow_le_pow_right (by omega) hj)
      rw [Nat.testBit_lt_two_pow this] at hb
      cases hb
    · rw [if_neg q]
      have hkn : w.2.2.2.2.1 < nW := by omega
      cases hr : wroll rn W w with
      | none => exact absurd (h w.2.2.2.2.1.toNat (by omega) (by omega)) (KT_none hrn hw hkn hr)
      | some y =>
        obtain ⟨b, t, p, s⟩ := y
        dsimp only
        obtain ⟨-, -, -, hbok, -, -, -, t3, -⟩ := wroll_some hrn hw hkn hr
        have hd := hbok.2.2.2.2.2.2
        have nxt : ∀ u : Int, max 0 (b.2.2.2.1 - lsM M w.2.1.toNat) = b.2.2.2.1 - u → ∀ k : Nat, (leaveR rn W w b t p s u).2.2.2.2.1 ≤ k → k < nW → W k ∈ KT rn M (leaveR rn W w b t p s u) := fun u hu k h1 h2 => by
          have hknv : (leaveR rn W w b t p s u).2.2.2.2.1 = if 0 < lvK (b.2.2.2.1 - u) s ∧ t = W w.2.2.2.2.1.toNat then w.2.2.2.2.1 + 1 else w.2.2.2.2.1 := rfl
          have hk1 : w.2.2.2.2.1 ≤ k := by
            rw [hknv] at h1
            split at h1 <;> omega
          have hin := h k hk1 h2
          rw [KT_step hrn hw hkn hr hu] at hin
          rcases List.mem_append.mp hin with hin | hin
          · split at hin
            · next z =>
              have he := List.mem_singleton.mp hin
              by_cases z2 : k = w.2.2.2.2.1.toNat
              · rw [hknv, if_pos ⟨z, by rw [← z2, he]⟩] at h1
                omega
              · have := hW.lt2 (j := w.2.2.2.2.1.toNat) (k := k) (by omega) h2
                omega
            · cases hin
          · exact hin
        cases hbit : M.testBit w.2.1.toNat with
        | true =>
          by_cases hdr : 0 < b.2.2.2.1
          · obtain ⟨w1, w2, w3, w4, w5⟩ := leave_ok (u := 1) hrn hW hw hkn hr (by omega) (by omega)
            rw [w4] at hf hch hpl ⊢
            have hch1 : ch + 2 ^ w.2.1.toNat < 2 ^ plN rn (leaveR rn W w b t p s 1).2.1 := by
              have h2 : (2 : Nat) ^ (w.2.1.toNat + 1) ≤ 2 ^ plN rn (leaveR rn W w b t p s 1).2.1 := Nat.pow_le_pow_right (by omega) w2
              rw [Nat.pow_succ] at h2
              omega
            obtain ⟨x, hx, hm⟩ := wlv_has hrn hW f _ (ch + 2 ^ w.2.1.toNat) w1 (by omega) w3 hch1 (nxt 1 (by rw [lsM_t hbit]; omega))
            obtain ⟨-, i2, -⟩ := wlv_expl hrn hW f _ _ x w1 hch1 w3 hx
            refine ⟨x, List.mem_append_left _ (by rw [if_pos hdr]; exact hx), fun j hj hb => ?_⟩
            by_cases z : plN rn (leaveR rn W w b t p s 1).2.1 ≤ j
            · exact hm j z hb
            · rw [i2 j (by omega), tb_add hch] at hb
              by_cases z2 : j = w.2.1.toNat
              · rw [z2]; exact hbit
              · rw [beq_eq_false_iff_ne.mpr z2, Bool.or_false, Nat.testBit_lt_two_pow (Nat.lt_of_lt_of_le hch (Nat.pow_le_pow_right (by omega) hj))] at hb
                cases hb
          · obtain ⟨w1, w2, w3, w4, w5⟩ := leave_ok (u := 0) hrn hW hw hkn hr (by omega) (by omega)
            rw [w4] at hf hch hpl ⊢
            have hch1 : ch < 2 ^ plN rn (leaveR rn W w b t p s 0).2.1 := Nat.lt_of_lt_of_le hch (Nat.pow_le_pow_right (by omega) (by omega))
            obtain ⟨x, hx, hm⟩ := wlv_has hrn hW f _ ch w1 (by omega) w3 hch1 (nxt 0 (by rw [lsM_t hbit]; omega))
            obtain ⟨-, i2, -⟩ := wlv_expl hrn hW f _ _ x w1 hch1 w3 hx
            refine ⟨x, List.mem_append_right _ hx, fun j hj hb => ?_⟩
            by_cases z : plN rn (leaveR rn W w b t p s 0).2.1 ≤ j
            · exact hm j z hb
            · rw [i2 j (by omega), Nat.testBit_lt_two_pow (Nat.lt_of_lt_of_le hch (Nat.pow_le_pow_right (by omega) hj))] at hb
              cases hb
        | false =>
          obtain ⟨w1, w2, w3, w4, w5⟩ := leave_ok (u := 0) hrn hW hw hkn hr (by omega) (by omega)
          rw [w4] at hf hch hpl ⊢
          have hch1 : ch < 2 ^ plN rn (leaveR rn W w b t p s 0).2.1 := Nat.lt_of_lt_of_le hch (Nat.pow_le_pow_right (by omega) (by omega))
          obtain ⟨x, hx, hm⟩ := wlv_has hrn hW f _ ch w1 (by omega) w3 hch1 (nxt 0 (by rw [lsM_f hbit]; omega))
          obtain ⟨-, i2, -⟩ := wlv_expl hrn hW f _ _ x w1 hch1 w3 hx
          refine ⟨x, List.mem_append_right _ hx, fun j hj hb => ?_⟩
          by_cases z : plN rn (leaveR rn W w b t p s 0).2.1 ≤ j
          · exact hm j z hb
          · rw [i2 j (by omega), Nat.testBit_lt_two_pow (Nat.lt_of_lt_of_le hch (Nat.pow_le_pow_right (by omega) hj))] at hb
            cases hb
/-- of two sets: the first place where they differ is in the first -/
def preL (a b : Nat) : Prop := ∃ p, a.testBit p = true ∧ b.testBit p = false ∧ ∀ q, q < p → a.testBit q = b.testBit q
theorem wlv_ord {rn : RUN} {nW : Nat} {W : Nat → Int} (hrn : RUNok rn) (hW : Winc nW W) : ∀ (f : Nat) (w : CRW) (ch : Nat), WS rn nW W w → ch < 2 ^ plN rn w.2.1 → plN rn w.2.1 ≤ rn.length → (wlv rn nW W f w ch).Pairwise (fun a b => preL a.2 b.2)
  | 0, _, _, _, _, _ => List.Pairwise.nil
  | f + 1, w, ch, hw, hch, hpl => by
    unfold wlv
    by_cases q : (nW : Int) ≤ w.2.2.2.2.1
    · rw [if_pos q]
      exact List.pairwise_singleton _ _
    · rw [if_neg q]
      have hkn : w.2.2.2.2.1 < nW := by omega
      cases hr : wroll rn W w with
      | none => exact List.Pairwise.nil
      | some y =>
        obtain ⟨b, t, p, s⟩ := y
        dsimp only
        obtain ⟨-, -, -, hbok, -⟩ := wroll_some hrn hw hkn hr
        have hd := hbok.2.2.2.2.2.2
        obtain ⟨v1, v2, v3, v4, v5⟩ := leave_ok (u := 0) hrn hW hw hkn hr (by omega) (by omega)
        rw [v4] at hch hpl
        have hch0 : ch < 2 ^ plN rn (leaveR rn W w b t p s 0).2.1 := Nat.lt_of_lt_of_le hch (Nat.pow_le_pow_right (by omega) (by omega))
        have o0 := wlv_ord hrn hW f _ ch v1 hch0 v3
        by_cases hdr : 0 < b.2.2.2.1
        · rw [if_pos hdr]
          obtain ⟨w1, w2, w3, w4, w5⟩ := leave_ok (u := 1) hrn hW hw hkn hr (by omega) (by omega)
          have hch1 : ch + 2 ^ w.2.1.toNat < 2 ^ plN rn (leaveR rn W w b t p s 1).2.1 := by
            have h2 : (2 : Nat) ^ (w.2.1.toNat + 1) ≤ 2 ^ plN rn (leaveR rn W w b t p s 1).2.1 := Nat.pow_le_pow_right (by omega) w2
            rw [Nat.pow_succ] at h2
            omega
          refine List.pairwise_append.mpr ⟨wlv_ord hrn hW f _ _ w1 hch1 w3, o0, fun x hx y hy => ?_⟩
          obtain ⟨-, i2, -⟩ := wlv_expl hrn hW f _ _ x w1 hch1 w3 hx
          obtain ⟨-, j2, -⟩ := wlv_expl hrn hW f _ _ y v1 hch0 v3 hy
          refine ⟨w.2.1.toNat, ?_, ?_, fun j hj => ?_⟩
          · rw [i2 _ w2, tb_add hch]; simp
          · rw [j2 _ v2]; exact Nat.testBit_lt_two_pow hch
          · rw [i2 _ (by omega), j2 _ (by omega), tb_add hch, beq_eq_false_iff_ne.mpr (by omega), Bool.or_false]
        · rw [if_neg hdr, List.nil_append]
          exact o0
