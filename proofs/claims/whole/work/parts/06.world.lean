/-! The world: what a cell says is unchanged when none of its variables is; a cell is written. -/
theorem am_chk0 {c x n : Nat} {z : Nat × Nat} (h : am_ck c = (0, x, n, z)) (hc : c < am_NC) : x = c ∧ c < 13 ∧ (∃ r : vw_C, vwCl[c]? = some r ∧ r.2.2 = n) ∧ ∀ k, k < n → match am_slot c k with
    | (0, v, _) => am_oI v = (c, k)
    | (1, v, _) => am_oI v = (c, k)
    | (2, v, _) => am_oL v = (c, k)
    | (3, t, _, _) => t < am_NC
    | (4, v, t, _) => am_oR v = (c, k) ∧ t < am_NC
    | _ => False := by
  have h1 := am_chkT_ok c hc
  unfold am_chkT at h1
  rw [h] at h1
  simp only [Bool.and_eq_true, beq_iff_eq, List.all_eq_true, List.mem_range] at h1
  obtain ⟨e, h2, h3, h4⟩ := h1
  subst e
  refine ⟨rfl, Nat.blt_eq.mp h2, ?_, fun k hk => ?_⟩
  · cases hr : vwCl[x]? with
    | none => rw [hr] at h3; cases h3
    | some r => rw [hr] at h3; exact ⟨r, rfl, by simpa using h3⟩
  · have h5 := h4 k hk
    generalize am_slot x k = sl at h5
    obtain ⟨a, v, t, b⟩ := sl
    match a, h5 with
    | 0, h5 => simpa using h5
    | 1, h5 => simpa using h5
    | 2, h5 => simpa using h5
    | 3, h5 => simpa using h5
    | 4, h5 => simpa using h5
/-- two states that agree on the variables of a cell: the cell is the same -/
theorem am_ref_congr {R R' : RR} {G G' : GG} {c i : Nat} (hc : c < am_NC) (hR : ∀ v, (am_oR v).1 = c → R' v i = R v i) (hG : G'.1 c i = G.1 c i) (k : Nat) (hk : ∀ n z x, am_ck c = (0, x, n, z) → k < n) : am_ref R' G' c i k = am_ref R G c i k := by
  unfold am_ref
  rcases hck : am_ck c with ⟨a, x, n, y, t⟩
  match a, hck with
  | 0, hck =>
    obtain ⟨e, -, -, hs⟩ := am_chk0 hck hc
    subst e
    have hkn := hk n _ _ hck
    have h1 := hs k hkn
    rcases hsl : am_slot x k with ⟨a, v, t, b⟩
    rw [hsl] at h1
    match a, h1, hsl with
    | 0, _, _ => rfl
    | 1, _, _ => rfl
    | 2, _, _ => rfl
    | 3, _, _ => simp only [hG]
    | 4, h1, _ =>
      have h2 : (am_oR v).1 = x := by rw [h1.1]
      simp only [hR v h2]
    | _ + 5, h1, _ => exact h1.elim
  | 1, _ => rfl
  | 2, _ => rfl
  | 3, _ => rfl
  | 4, _ => simp only [hG]
  | 5, hck =>
    have h1 := am_chkT_ok c hc
    unfold am_chkT at h1
    rw [hck] at h1
    simp only [Bool.and_eq_true, beq_iff_eq] at h1
    simp only [hR n (by rw [h1.1])]
  | _ + 6, _ => rfl
theorem am_E_congr {Γ : AMG} {ρ : Nat → Nat → Nat} {I I' : II} {Lg Lg' : LJ} {R R' : RR} {G G' : GG} {c i : Nat} (hc : c < am_NC) (hI : ∀ v, (am_oI v).1 = c → I' v i = I v i) (hL : ∀ v, (am_oL v).1 = c → Lg' v i = Lg v i) (hR : ∀ v, (am_oR v).1 = c → R' v i = R v i) (hG : G'.1 c i = G.1 c i) : am_E Γ ρ I' Lg' R' G' c i = am_E Γ ρ I Lg R G c i := by
  have hrf := am_ref_congr (R := R) (R' := R') (G := G) (G' := G') hc hR hG
  unfold am_E
  rcases hck : am_ck c with ⟨a, x, n, y, t⟩
  match a, hck with
  | 0, hck =>
    obtain ⟨e, -, -, hs⟩ := am_chk0 hck hc
    subst e
    show Sum.inr (x, (List.range n).map (am_val ρ I' Lg' R' G' x i)) = Sum.inr (x, (List.range n).map (am_val ρ I Lg R G x i))
    congr 2
    apply List.map_congr_left
    intro k hk
    have hkn := List.mem_range.mp hk
    have h1 := hs k hkn
    have h9 := hrf k (fun n' z' x' q => by rw [hck] at q; cases q; exact hkn)
    unfold am_val
    rcases hsl : am_slot x k with ⟨a, v, t, b⟩
    rw [hsl] at h1
    match a, h1 with
    | 0, h1 =>
      have h2 : (am_oI v).1 = x := by rw [show am_oI v = (x, k) from h1]
      simp only [hI v h2]
    | 1, h1 =>
      have h2 : (am_oI v).1 = x := by rw [show am_oI v = (x, k) from h1]
      simp only [hI v h2]
    | 2, h1 =>
      have h2 : (am_oL v).1 = x := by rw [show am_oL v = (x, k) from h1]
      simp only [hL v h2]
    | 3, _ => simp only [h9]
    | 4, _ => simp only [h9]
    | _ + 5, h1 => exact h1.elim
  | 1, hck =>
    have h1 := am_chkT_ok c hc
    unfold am_chkT at h1
    rw [hck] at h1
    simp only [Bool.and_eq_true, beq_iff_eq] at h1
    simp only [hI n (by rw [h1.1])]
  | 2, hck =>
    have h1 := am_chkT_ok c hc
    unfold am_chkT at h1
    rw [hck] at h1
    simp only [Bool.and_eq_true, beq_iff_eq] at h1
    simp only [hI n (by rw [h1.1])]
  | 3, hck =>
    have h1 := am_chkT_ok c hc
    unfold am_chkT at h1
    rw [hck] at h1
    simp only [Bool.and_eq_true, beq_iff_eq] at h1
    simp only [hL n (by rw [h1.1])]
  | 4, hck =>
    have hf : (fun k => (am_ref R' G' c i k).map (fun p => ρ p.1 p.2)) = (fun k => (am_ref R G c i k).map (fun p => ρ p.1 p.2)) := funext fun k => by rw [hrf k (fun n' z' x' q => by rw [hck] at q; cases q)]
    simp only [hf]
  | 5, hck =>
    have hf : (fun k => (am_ref R' G' c i k).map (fun p => ρ p.1 p.2)) = (fun k => (am_ref R G c i k).map (fun p => ρ p.1 p.2)) := funext fun k => by rw [hrf k (fun n' z' x' q => by rw [hck] at q; cases q)]
    simp only [hf]
  | 6, hck =>
    have h1 := am_chkT_ok c hc
    unfold am_chkT at h1
    rw [hck] at h1
    cases h1
  | _ + 7, hck =>
    have h1 := am_chkT_ok c hc
    unfold am_chkT at h1
    rw [hck] at h1
    cases h1
theorem am_nth_out {α : Type} (d : α) : ∀ (l : List α) (n : Nat), l.length ≤ n → am_nth d l n = d
  | [], _, _ => rfl
  | _ :: xs, 0, h => absurd h (by simp)
  | _ :: xs, n + 1, h => am_nth_out d xs n (by simpa using h)
/-- rows of sixteen, the last one shorter: beyond the end nothing stands -/
def am_rowsOk {α : Type} (n : Nat) : List (List α) → Bool
  | [] => n == 0
  | [r] => r.length == n && Nat.ble n 16
  | r :: rs => r.length == 16 && (Nat.ble 16 n && am_rowsOk (n - 16) rs)
theorem am_lk_out {α : Type} (d : α) : ∀ (rows : List (List α)) (n k : Nat), am_rowsOk n rows = true → n ≤ k → am_lk d rows k = d
  | [], n, k, _, _ => by simp [am_lk, am_nth]
  | [r], n, k, h, hk => by
    simp only [am_rowsOk, Bool.and_eq_true, beq_iff_eq] at h
    have h2 := Nat.le_of_ble_eq_true h.2
    unfold am_lk
    by_cases h16 : k < 16
    · rw [show k / 16 = 0 by omega, show k % 16 = k by omega]
      exact am_nth_out d r k (by omega)
    · obtain ⟨q, hq⟩ : ∃ q, k / 16 = q + 1 := ⟨k / 16 - 1, by omega⟩
      rw [hq]
      rfl
  | r :: r2 :: rs, n, k, h, hk => by
    have h0 : r.length = 16 ∧ 16 ≤ n ∧ am_rowsOk (n - 16) (r2 :: rs) = true := by
      simp only [am_rowsOk, Bool.and_eq_true, beq_iff_eq] at h
      exact ⟨h.1, Nat.le_of_ble_eq_true h.2.1, h.2.2⟩
    have ih := am_lk_out d (r2 :: rs) (n - 16) (k - 16) h0.2.2 (by omega)
    unfold am_lk at ih ⊢
    obtain ⟨q, hq⟩ : ∃ q, k / 16 = q + 1 := ⟨k / 16 - 1, by omega⟩
    rw [show (k - 16) / 16 = q by omega, show (k - 16) % 16 = k % 16 by omega] at ih
    rw [hq]
    exact ih
theorem am_slot_ok : ∀ c, c < 13 → am_rowsOk (am_ck c).2.2.1 (am_nth [] am_slT c) = true := by decide +kernel
theorem am_slot_out {c k x n : Nat} {z : Nat × Nat} (hck : am_ck c = (0, x, n, z)) (hc : c < 13) (hk : n ≤ k) : am_slot c k = (9, 0, 0, 0) := by
  have h := am_slot_ok c hc
  rw [hck] at h
  exact am_lk_out _ _ _ _ h hk
/-- the world behind a write into the cell (c, i) -/
theorem am_Wd.upd {Γ : AMG} {ρ : Nat → Nat → Nat} {I I' : II} {Lg Lg' : LJ} {R R' : RR} {G G' : GG} {H H1 : Heap} {c i : Nat} (hW : am_Wd Γ ρ I Lg R G H) (hc : c < am_NC) (hi : i < G.2 c) (hz : H1.size = H.size) (hq : ∀ q, q ≠ ρ c i → H1[q]? = H[q]?) (hat : va_at Γ.D vwCl (ρ c i, am_E Γ ρ I' Lg' R' G' c i) H1)
    (hI : ∀ v i', ¬ ((am_oI v).1 = c ∧ i' = i) → I' v i' = I v i') (hL : ∀ v i', ¬ ((am_oL v).1 = c ∧ i' = i) → Lg' v i' = Lg v i') (hR : ∀ v i', ¬ ((am_oR v).1 = c ∧ i' = i) → R' v i' = R v i') (hG : ∀ c' i', ¬ (c' = c ∧ i' = i) → G'.1 c' i' = G.1 c' i') (hG2 : G'.2 = G.2)
    (hcl : ∀ k c' i', (∀ n z x, am_ck c = (0, x, n, z) → k < n) → am_ref R' G' c i k = some (c', i') → c' < am_NC ∧ i' < G.2 c') : am_Wd Γ ρ I' Lg' R' G' H1 := by
  obtain ⟨w1, w2, w3, w4, w5, w6, w7, w8, w9⟩ := hW
  have hother : ∀ c' i', ¬ (c' = c ∧ i' = i) → c' < am_NC → am_E Γ ρ I' Lg' R' G' c' i' = am_E Γ ρ I Lg R G c' i' := fun c' i' hne hc' =>
    am_E_congr hc' (fun v hv => hI v i' (fun q => hne ⟨hv.symm.trans q.1, q.2⟩)) (fun v hv => hL v i' (fun q => hne ⟨hv.symm.trans q.1, q.2⟩)) (fun v hv => hR v i' (fun q => hne ⟨hv.symm.trans q.1, q.2⟩)) (hG c' i' hne)
  refine ⟨fun c' i' hc' hi' => ?_, by rw [hG2]; exact w2, by rw [hG2]; exact w3, w4, w5, by rw [hz]; exact w6, fun q hlt => ?_, fun c' i' k c2 i2 hc' hi' hr => ?_, fun c' i' hc' hi' hop => ?_⟩
  · rw [hG2] at hi'
    by_cases e : c' = c ∧ i' = i
    · obtain ⟨rfl, rfl⟩ := e
      exact hat
    · rw [hother c' i' e hc']
      exact (w1 c' i' hc' hi').kept (hq _ (fun z => e (w2 c' i' c i hc' hc hi' hi z)))
  · rw [hq q (fun z => by have := w3 c i hc hi; omega)]
    exact w7 q hlt
  · rw [hG2] at hi' ⊢
    have hk9 : ∀ n z x, am_ck c' = (0, x, n, z) → k < n := by
      intro n z x hck
      unfold am_ref at hr
      rw [hck] at hr
      obtain ⟨e, hlt, ⟨r, hr1, hr2⟩, hs⟩ := am_chk0 hck hc'
      subst e
      apply Decidable.byContradiction
      intro hkn
      have hb : am_slot x k = (9, 0, 0, 0) := am_slot_out hck hlt (Nat.not_lt.mp hkn)
      rw [hb] at hr
      cases hr
    by_cases e : c' = c ∧ i' = i
    · obtain ⟨rfl, rfl⟩ := e
      exact hcl k c2 i2 hk9 hr
    · rw [am_ref_congr hc' (fun v hv => hR v i' (fun q => e ⟨hv.symm.trans q.1, q.2⟩)) (hG c' i' e) k hk9] at hr
      exact w8 c' i' k c2 i2 hc' hi' hr
  · rw [hG2] at hi'
    have hne : ¬ (c' = c ∧ i' = i) := fun q => by obtain ⟨rfl, rfl⟩ := q; omega
    rw [hG 1000 c' (fun q => by have h1 : c < am_NC := hc; unfold am_NC at h1; omega)] at hop
    obtain ⟨z1, z2, z3, z4⟩ := w9 c' i' hc' hi' hop
    exact ⟨fun v j hv => by rw [hI v i' (fun q => hne ⟨hv.symm.trans q.1, q.2⟩)]; exact z1 v j hv, fun v j hv => by rw [hL v i' (fun q => hne ⟨hv.symm.trans q.1, q.2⟩)]; exact z2 v j hv, fun v j hv => by rw [hR v i' (fun q => hne ⟨hv.symm.trans q.1, q.2⟩)]; exact z3 v j hv, fun k => by rw [hG c' i' hne]; exact z4 k⟩
