/-! Behind the constructors. -/
def needB (c k : Nat) : Bool := match am_ck c with
  | (0, _) => Nat.beq (am_slot c k).1 3
  | (4, N, _) => Nat.blt k N
  | _ => false
theorem am_E_ref {Γ : AMG} {ρ : Nat → Nat → Nat} {I : II} {Lg : LJ} {R : RR} {G G' : GG} {c i : Nat} (h : ∀ k, am_ref R G' c i k = am_ref R G c i k) : am_E Γ ρ I Lg R G' c i = am_E Γ ρ I Lg R G c i := by
  have hv : ∀ k, am_val ρ I Lg R G' c i k = am_val ρ I Lg R G c i k := by
    intro k
    unfold am_val
    rw [h k]
  unfold am_E
  rw [show am_val ρ I Lg R G' c i = am_val ρ I Lg R G c i from funext hv, show (fun k => (am_ref R G' c i k).map (fun p => ρ p.1 p.2)) = (fun k => (am_ref R G c i k).map (fun p => ρ p.1 p.2)) from funext (fun k => by rw [h k])]
theorem need1 (k : Nat) : needB 1 k = false := by
  show Nat.beq (am_slot 1 k).1 3 = false
  by_cases hk : k < 5
  · have : k = 0 ∨ k = 1 ∨ k = 2 ∨ k = 3 ∨ k = 4 := by omega
    rcases this with rfl | rfl | rfl | rfl | rfl <;> rfl
  · rw [am_slot_out (c := 1) (x := 1) (n := 5) (z := (0, 0)) rfl (by decide) (by omega)]
    rfl
theorem ini_ne {c i k : Nat} (h1 : c ≠ 1) (h2 : c < 117) : am_iniM c i k = true := by
  unfold am_iniM
  rw [nbeq_ne h1, nbeq_ne (show c ≠ 1000 by omega)]
  rfl
theorem ref_close {R : RR} {G : GG} {c i k : Nat} (hc : c < 117) (hf : needB c k = true → G.1 c i k = true) : am_ref R (GM G.2) c i k = am_ref R G c i k := by
  by_cases hn : needB c k = true
  · have h1 : c ≠ 1 := fun e => by rw [e, need1] at hn; cases hn
    have e1 := hf hn
    have e2 : am_iniM c i k = true := ini_ne h1 hc
    unfold am_ref
    simp only [e1, e2]
  · unfold needB at hn
    unfold am_ref
    rcases hck : am_ck c with ⟨a, N, x, y, t⟩
    rw [hck] at hn
    match a, hn with
    | 0, hn =>
      dsimp only at hn ⊢
      rcases hs : am_slot c k with ⟨b, v, t, m⟩
      rw [hs] at hn
      match b, hn with
      | 0, _ => rfl
      | 1, _ => rfl
      | 2, _ => rfl
      | 3, hn => exact absurd rfl hn
      | 4, _ => rfl
      | _ + 5, _ => rfl
    | 1, _ => rfl
    | 2, _ => rfl
    | 3, _ => rfl
    | 4, hn =>
      have hb : Nat.blt k N = false := by
        cases e : Nat.blt k N with
        | false => rfl
        | true => exact absurd e hn
      show cond (Nat.blt k N && am_iniM c i k) (some (x, am_aidx y k)) none = cond (Nat.blt k N && G.1 c i k) (some (x, am_aidx y k)) none
      rw [hb]
      rfl
    | 5, _ => rfl
    | _ + 6, _ => rfl
section CLOSE
variable {Γ : AMG} {M : MD} {Q : QQ} {d k n pc : Nat} {L : LL} {st : List AV} {I : II} {Lg : LJ} {R : RR} {G : GG}
theorem am_Wd.close {ρ : Nat → Nat → Nat} {H : Heap} (hW : am_Wd Γ ρ I Lg R G H) (hop : G.1 1000 1 0 = false) (hf : ∀ c i k, c < 117 → i < G.2 c → needB c k = true → G.1 c i k = true) : am_Wd Γ ρ I Lg R (GM G.2) H := by
  obtain ⟨w1, w2, w3, w4, w5, w6, w7, w8, w9⟩ := hW
  have hr : ∀ c i k, c < 117 → i < G.2 c → am_ref R (GM G.2) c i k = am_ref R G c i k := fun c i k hc hi => ref_close hc (hf c i k hc hi)
  refine ⟨fun c i hc hi => ?_, w2, w3, w4, w5, w6, w7, fun c i k c' i' hc hi h => ?_, fun c i hc hi ho => ?_⟩
  · rw [am_E_ref (fun k => hr c i k hc hi)]
    exact w1 c i hc hi
  · rw [hr c i k hc hi] at h
    exact w8 c i k c' i' hc hi h
  · have hc1 : c = 1 := by
      have h1 : (!(Nat.beq c 1)) = false := ho
      cases e : Nat.beq c 1 with
      | true => exact Nat.eq_of_beq_eq_true e
      | false => rw [e] at h1; cases h1
    subst hc1
    obtain ⟨z1, z2, z3, -⟩ := w9 1 i hc hi hop
    exact ⟨z1, z2, z3, fun _ => rfl⟩
theorem am_J.close (hop : G.1 1000 1 0 = false) (hf : ∀ c i k, c < 117 → i < G.2 c → needB c k = true → G.1 c i k = true) (h : am_J Γ M Q d k n pc L st I Lg R (GM G.2)) : am_J Γ M Q d k n pc L st I Lg R G :=
  fun ρ p e Rm s m args below meth c H locs cells slots Z C h1 h2 h3 h4 hW hl hoL hoS ret ls hL => h ρ p e Rm s m args below meth c H locs cells slots Z C h1 h2 h3 h4 (hW.close hop hf) hl
    ⟨hoL.1, fun v hv => (hoL.2 v hv).of2 (G := G) (G1 := GM G.2) rfl⟩ (fun v hv => (hoS v hv).of2 (G := G) (G1 := GM G.2) rfl) (fun ρ' r I' Lg' R' G' H' locs' cells' slots' pc' ls' b1 b2 b3 b4 b5 b6 b7 b8 => ret ρ' r I' Lg' R' G' H' locs' cells' slots' pc' ls' b1 (b2.of2 (G := G) (G1 := GM G.2) rfl) b3 b4 b5 b6 b7 b8) ls hL
end CLOSE
