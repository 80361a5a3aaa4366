/-! The rows of the cost are made. -/
theorem nbeq_ne {a b : Nat} (h : a ≠ b) : Nat.beq a b = false := by
  cases e : Nat.beq a b with
  | false => rfl
  | true => exact absurd (Nat.eq_of_beq_eq_true e) h
def mnG (G : GG) : GG := (fun c i k => (Nat.beq c 23 && (Nat.beq i 0 && Nat.blt k 28)) || G.1 c i k, fun x => if x = 23 then 1 else if x = 115 then 28 else G.2 x)
def mnρ (ρ : Nat → Nat → Nat) (a : Nat) : Nat → Nat → Nat := fun c i => if c = 23 ∧ i = 0 then a else if c = 115 then a + 1 + i else ρ c i
theorem mnG_ne {G : GG} {c i : Nat} (h : ¬ (c = 23 ∧ i = 0)) : (mnG G).1 c i = G.1 c i := by
  funext k
  show ((Nat.beq c 23 && (Nat.beq i 0 && Nat.blt k 28)) || G.1 c i k) = _
  by_cases e : c = 23
  · have e2 : i ≠ 0 := fun q => h ⟨e, q⟩
    rw [show Nat.beq i 0 = false from nbeq_ne e2]
    simp
  · rw [show Nat.beq c 23 = false from nbeq_ne e]
    simp
theorem mnρ_old {ρ : Nat → Nat → Nat} {a c i : Nat} (h1 : ¬ (c = 23 ∧ i = 0)) (h2 : c ≠ 115) : mnρ ρ a c i = ρ c i := by
  unfold mnρ
  rw [if_neg h1, if_neg h2]
section MNEW
variable {Γ : AMG} {M : MD} {Q : QQ} {d k n pc : Nat} {L : LL} {st : List AV} {I : II} {Lg : LJ} {R : RR} {G : GG}
theorem am_Wd.mnew {ρ : Nat → Nat → Nat} {H H1 : Heap} (hW : am_Wd Γ ρ I Lg R G H) (ho1 : G.1 1000 115 0 = false) (h1 : G.2 23 = 0) (h2 : G.2 115 = 0) (hz : H1.size = H.size + 29) (hq : ∀ q, q < H.size → H1[q]? = H[q]?)
    (hO : H1[H.size]? = some (arrV (Γ.cy 7) 28 (fun j => if j < 28 then .ref (H.size + 1 + j) else .null))) (hI : ∀ j, j < 28 → H1[H.size + 1 + j]? = some (arrV (Γ.cy 0) 28 (fun _ => .int 0))) : am_Wd Γ (mnρ ρ H.size) I Lg R (mnG G) H1 := by
  obtain ⟨w1, w2, w3, w4, w5, w6, w7, w8, w9⟩ := hW
  have hold : ∀ c i, c < am_NC → i < (mnG G).2 c → ¬ (c = 23 ∧ i = 0) → c ≠ 115 → i < G.2 c := by
    intro c i hc hi e1 e2
    have hi' : i < (if c = 23 then 1 else if c = 115 then 28 else G.2 c) := hi
    by_cases e : c = 23
    · rw [if_pos e] at hi'
      exact absurd ⟨e, by omega⟩ e1
    · rwa [if_neg e, if_neg e2] at hi'
  have hlt : ∀ c i, c < am_NC → i < G.2 c → ρ c i < H.size := fun c i a b => (w1 c i a b).lt
  have h115 : ∀ i, i < (mnG G).2 115 → i < 28 := fun i hi => hi
  have hρ1 : mnρ ρ H.size 23 0 = H.size := rfl
  have hρ2 : ∀ i, mnρ ρ H.size 115 i = H.size + 1 + i := fun i => rfl
  have hle : ∀ c, G.2 c ≤ (mnG G).2 c := fun c => by
    show _ ≤ (if c = 23 then 1 else if c = 115 then 28 else G.2 c)
    by_cases e : c = 23
    · rw [if_pos e, e, h1]; omega
    · rw [if_neg e]
      by_cases e2 : c = 115
      · rw [if_pos e2, e2, h2]; omega
      · rw [if_neg e2]; exact Nat.le_refl _
  have hn23 : ∀ i, ¬ i < G.2 23 := fun i => by rw [h1]; omega
  have hn115 : ∀ i, ¬ i < G.2 115 := fun i => by rw [h2]; omega
  have hρo : ∀ c i, c < am_NC → i < G.2 c → mnρ ρ H.size c i = ρ c i := fun c i hc hi => mnρ_old (fun q => hn23 i (by rw [← q.1]; exact hi)) (fun q => hn115 i (by rw [← q]; exact hi))
  -- where a cell lies now
  have hkind : ∀ c i, c < am_NC → i < (mnG G).2 c → (c = 23 ∧ i = 0) ∨ (c = 115 ∧ i < 28) ∨ (¬ (c = 23 ∧ i = 0) ∧ c ≠ 115 ∧ i < G.2 c) := fun c i hc hi => by
    by_cases e : c = 23 ∧ i = 0
    · exact Or.inl e
    · by_cases e2 : c = 115
      · exact Or.inr (Or.inl ⟨e2, h115 i (by rw [← e2]; exact hi)⟩)
      · exact Or.inr (Or.inr ⟨e, e2, hold c i hc hi e e2⟩)
  have eref : ∀ k, k < 28 → am_ref R (mnG G) 23 0 k = some (115, k) := fun k hk => by
    have hb : Nat.blt k 28 = true := Nat.blt_eq.mpr hk
    show cond (Nat.blt k 28 && ((true && (true && Nat.blt k 28)) || G.1 23 0 k)) (some (115, k)) none = _
    rw [hb]
    rfl
  have eref2 : ∀ k, ¬ k < 28 → am_ref R (mnG G) 23 0 k = none := fun k hk => by
    have hb : Nat.blt k 28 = false := by cases e : Nat.blt k 28 with | false => rfl | true => exact absurd (Nat.blt_eq.mp e) hk
    show cond (Nat.blt k 28 && _) (some (115, k)) none = _
    rw [hb]
    rfl
  refine ⟨fun c i hc hi => ?_, fun c i c' i' hc hc' hi hi' he => ?_, fun c i hc hi => ?_, fun k => ?_, fun k => ?_, by omega, fun q hlt' => by rw [hq q (by omega)]; exact w7 q hlt', fun c i k c2 i2 hc hi hr => ?_, fun c i hc hi hop => ?_⟩
  · rcases hkind c i hc hi with ⟨rfl, rfl⟩ | ⟨rfl, hi⟩ | ⟨e1, e2, hi⟩
    · refine am_at_arr (a := 3) (n := 28) (x := 115) (y := 0) (t := 7) rfl ?_
      rw [hρ1, hO]
      congr 2
      funext j
      by_cases hj : j < 28
      · rw [if_pos hj]
        show _ = va_rf ((am_ref R (mnG G) 23 0 j).map (fun p => mnρ ρ H.size p.1 p.2))
        rw [eref j hj]
        rfl
      · rw [if_neg hj]
        show _ = va_rf ((am_ref R (mnG G) 23 0 j).map (fun p => mnρ ρ H.size p.1 p.2))
        rw [eref2 j hj]
        rfl
    · refine am_at_arr (a := 0) (n := 28) (x := 177) (y := 0) (t := 0) rfl ?_
      rw [hρ2, hI i hi]
      congr 2
      funext j
      show Value.int 0 = .int (I 177 i j)
      rw [(w9 115 i (by decide) (by rw [h2]; omega) ho1).1 177 j rfl]
    · rw [hρo c i hc hi, am_E_congr (Γ := Γ) (ρ := mnρ ρ H.size) (I := I) (Lg := Lg) (R := R) (G := G) (G' := mnG G) hc (fun _ _ => rfl) (fun _ _ => rfl) (fun _ _ => rfl) (mnG_ne e1), am_E_rho (ρ := ρ) (ρ' := mnρ ρ H.size) (G := G) (G' := G) rfl (fun k c2 i2 hr => hρo c2 i2 (w8 c i k c2 i2 hc hi hr).1 (w8 c i k c2 i2 hc hi hr).2)]
      exact (w1 c i hc hi).kept (hq _ (hlt c i hc hi))
  · rcases hkind c i hc hi with ⟨rfl, rfl⟩ | ⟨rfl, hi⟩ | ⟨e1, e2, hi⟩ <;> rcases hkind c' i' hc' hi' with ⟨rfl, rfl⟩ | ⟨rfl, hi'⟩ | ⟨e3, e4, hi'⟩
    · exact ⟨rfl, rfl⟩
    · rw [hρ1, hρ2] at he; omega
    · rw [hρ1, hρo c' i' hc' hi'] at he
      have := hlt c' i' hc' hi'
      omega
    · rw [hρ1, hρ2] at he; omega
    · rw [hρ2, hρ2] at he
      exact ⟨rfl, by omega⟩
    · rw [hρ2, hρo c' i' hc' hi'] at he
      have := hlt c' i' hc' hi'
      omega
    · rw [hρ1, hρo c i hc hi] at he
      have := hlt c i hc hi
      omega
    · rw [hρ2, hρo c i hc hi] at he
      have := hlt c i hc hi
      omega
    · rw [hρo c i hc hi, hρo c' i' hc' hi'] at he
      exact w2 c i c' i' hc hc' hi hi' he
  · rcases hkind c i hc hi with ⟨rfl, rfl⟩ | ⟨rfl, hi⟩ | ⟨e1, e2, hi⟩
    · rw [hρ1]; exact w6
    · rw [hρ2]; omega
    · rw [hρo c i hc hi]; exact w3 c i hc hi
  · rw [mnρ_old (fun q => absurd q.1 (by decide)) (by decide)]; exact w4 k
  · rw [mnρ_old (fun q => absurd q.1 (by decide)) (by decide)]; exact w5 k
  · rcases hkind c i hc hi with ⟨rfl, rfl⟩ | ⟨rfl, hi⟩ | ⟨e1, e2, hi⟩
    · by_cases hk : k < 28
      · rw [eref k hk] at hr
        cases hr
        exact ⟨by decide, hk⟩
      · rw [eref2 k hk] at hr
        cases hr
    · cases hr
    · have hr' : am_ref R G c i k = some (c2, i2) := by
        have : am_ref R (mnG G) c i k = am_ref R G c i k := by unfold am_ref; rw [mnG_ne e1]
        rw [← this]; exact hr
      obtain ⟨a, b⟩ := w8 c i k c2 i2 hc hi hr'
      exact ⟨a, Nat.lt_of_lt_of_le b (hle c2)⟩
  · have hop' : G.1 1000 c 0 = false := by
      have : (mnG G).1 1000 c = G.1 1000 c := mnG_ne (fun q => absurd q.1 (by decide))
      rw [← this]; exact hop
    obtain ⟨z1, z2, z3, z4⟩ := w9 c i hc (Nat.le_trans (hle c) hi) hop'
    refine ⟨z1, z2, z3, fun k => ?_⟩
    have e1 : ¬ (c = 23 ∧ i = 0) := fun q => by
      rw [q.1, q.2] at hi
      exact absurd hi (by show ¬ (1 ≤ 0); omega)
    rw [mnG_ne e1]
    exact z4 k
end MNEW
