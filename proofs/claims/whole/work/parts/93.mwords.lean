/-! The reference's words. -/
theorem lg_cmp0 (x y : Int64) : (lg_cmp x y).toInt = 0 ↔ x = y := by
  unfold lg_cmp
  split
  · next h =>
    constructor
    · intro e
      exact absurd e (by decide)
    · intro e
      subst e
      exact absurd h (Int64.lt_irrefl)
  · split
    · next h => exact ⟨fun _ => h, fun _ => by decide⟩
    · next h => exact ⟨fun e => absurd e (by decide), fun e => absurd e h⟩
def spA (a b c d e : Int) : Int := (fun v2 => (fun v3 => (fun v4 => if 0 < e then 27 * v4 + e - 96 else v4) (if 0 < d then 27 * v3 + d - 96 else v3)) (if 0 < c then 27 * v2 + c - 96 else v2)) (27 * (a - 96) + b - 96)
set_option maxRecDepth 100000 in
theorem s_spelt {Γ : AMG} {Q : QQ} {dd : Nat} {a b c d e : Int} {I : II} {Lg : LJ} {R : RR} {G : GG} (ha : 0 ≤ a ∧ a ≤ 200) (hb : 0 ≤ b ∧ b ≤ 200) (hc : 0 ≤ c ∧ c ≤ 200) (hd : 0 ≤ d ∧ d ≤ 200) (he : 0 ≤ e ∧ e ≤ 200) (h : Q (some (vL (zL (spA a b c d e)))) I Lg R G) :
    am_Sp Γ dd 0 0 mX12_spelt [vI (zI a), vI (zI b), vI (zI c), vI (zI d), vI (zI e)] I Lg R G Q := by
  unfold spA at h
  dsimp only at h
  have k57 : ∀ w : Int64, w = zL (if 0 < d then 27 * (if 0 < c then 27 * (27 * (a - 96) + b - 96) + c - 96 else 27 * (a - 96) + b - 96) + d - 96 else (if 0 < c then 27 * (27 * (a - 96) + b - 96) + c - 96 else 27 * (a - 96) + b - 96)) → am_J Γ mX12_spelt Q dd 0 0 57 [some (vI (zI a)), some (vI (zI b)), some (vI (zI c)), some (vI (zI d)), some (vI (zI e)), some (vL w), none] [] I Lg R G := by
    intro w hw
    refine am_go vX12_spelt 40 ?_
    refine And.intro (fun q => ?_) (fun q => ?_)
    · rw [zI_toInt (by omega) (by omega)] at q
      rw [if_neg (by omega), ← hw] at h
      exact h
    · rw [zI_toInt (by omega) (by omega)] at q
      rw [if_pos (by omega), ← zL_sub, ← zL_add, ← zL_mul, ← hw, ← zI_L (a := e) (by omega) (by omega)] at h
      exact h
  have k38 : ∀ v : Int64, v = zL (if 0 < c then 27 * (27 * (a - 96) + b - 96) + c - 96 else 27 * (a - 96) + b - 96) → am_J Γ mX12_spelt Q dd 0 0 38 [some (vI (zI a)), some (vI (zI b)), some (vI (zI c)), some (vI (zI d)), some (vI (zI e)), some (vL v), none] [] I Lg R G := by
    intro v hv
    refine am_go vX12_spelt 2 ?_
    refine And.intro (fun q => ?_) (fun q => ?_)
    · rw [zI_toInt (by omega) (by omega)] at q
      exact k57 v (by rw [if_neg (by omega)]; exact hv)
    · rw [zI_toInt (by omega) (by omega)] at q
      refine am_go vX12_spelt 9 ?_
      refine k57 _ ?_
      rw [if_pos (by omega), ← zL_sub, ← zL_add, ← zL_mul, ← hv, ← zI_L (a := d) (by omega) (by omega)]
      rfl
  have k19 : ∀ v : Int64, v = zL (27 * (a - 96) + b - 96) → am_J Γ mX12_spelt Q dd 0 0 19 [some (vI (zI a)), some (vI (zI b)), some (vI (zI c)), some (vI (zI d)), some (vI (zI e)), some (vL v), none] [] I Lg R G := by
    intro v hv
    refine am_go vX12_spelt 2 ?_
    refine And.intro (fun q => ?_) (fun q => ?_)
    · rw [zI_toInt (by omega) (by omega)] at q
      exact k38 v (by rw [if_neg (by omega)]; exact hv)
    · rw [zI_toInt (by omega) (by omega)] at q
      refine am_go vX12_spelt 9 ?_
      refine k38 _ ?_
      rw [if_pos (by omega), ← zL_sub, ← zL_add, ← zL_mul, ← hv, ← zI_L (a := c) (by omega) (by omega)]
      rfl
  refine am_run vX12_spelt 12 _ rfl rfl rfl rfl ?_
  refine k19 _ ?_
  rw [← zL_sub, ← zL_add, ← zL_mul, ← zL_sub, ← zI_L (a := a) (by omega) (by omega), ← zI_L (a := b) (by omega) (by omega)]
  rfl
set_option maxRecDepth 100000 in
theorem s_isKey {Γ : AMG} {Q : QQ} {d : Nat} {x : Int64} {I : II} {Lg : LJ} {R : RR} {G : GG} (hy : I 64 0 0 = zI 2 → Lg 0 0 0 = x → Q (some (vI (zI 1))) I Lg R G) (hn : ((I 64 0 0).toInt ≠ 2 ∨ Lg 0 0 0 ≠ x) → Q (some (vI (zI 0))) I Lg R G) : am_Sp Γ d 0 0 mX12_isKey [vR 12 0, vL x] I Lg R G Q := by
  refine am_run vX12_isKey 40 _ rfl rfl rfl rfl ?_
  refine And.intro (fun c => ?_) (fun c => ?_)
  · rw [zI_toInt (by omega) (by omega)] at c
    exact ⟨Or.inl rfl, hn (Or.inl c)⟩
  rw [zI_toInt (by omega) (by omega)] at c
  refine And.intro (fun c2 => ?_) (fun c2 => ?_)
  · exact ⟨Or.inl rfl, hn (Or.inr (fun q => c2 ((lg_cmp0 _ _).mpr q)))⟩
  · exact ⟨Or.inr rfl, hy (zI_of_toInt c) ((lg_cmp0 _ _).mp c2)⟩
