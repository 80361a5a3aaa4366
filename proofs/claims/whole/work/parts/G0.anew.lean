/-! Arrays of references are made. -/
section ANEW
variable {Γ : AMG} {M : MD} {Q : QQ} {d k n pc : Nat} {L : LL} {st : List AV} {I : II} {Lg : LJ} {R : RR} {G : GG}
theorem ar_anew {c a N x y t idx : Nat} {C : String} (hop : G.1 1000 c 0 = false) (hck : am_ck c = (a + 1, N, x, y, t)) (ha : 3 ≤ a ∧ a < 5) (hty : (am_tys Γ)[t]? = some (Γ.cy t, .object C)) (hN : N ≤ 1000000) (hcl : Cond.classLink M.1 idx C ∈ am_BIG) (hov : ∀ U, Γ.KX U → va_Nw (.arrayOver (.object C)) U)
    (hd : decode M.2.2.1 pc = .ok (.anewarray idx, 3)) (h : am_zero c (G.2 c) I Lg R G → am_J Γ M Q d k n (pc + 3) L (vR c (G.2 c) :: st) I Lg R (am_newG G c)) : am_J Γ M Q d (k + 1) (n + N) pc L (vI (zI N) :: st) I Lg R G := by
  have hc := am_ckNC hck (by omega)
  refine am_J.mk hc hop (fun ρ p e Rm s m args below meth c0 H locs cells slots Z ls C0 hW hz hc1 hc2 kk => ?_) (fun _ h => List.mem_cons_of_mem _ h) h
  have hzN : zI N = nI N := Int32.ofInt_eq_ofNat
  have hn0 : ¬ zI N < 0 := by rw [hzN]; exact nI_pos (by omega)
  have hnN : (zI N).toNatClampNeg = N := by rw [hzN]; exact nI_clamp (by omega)
  refine W.anew C0.1 C0.2.1 C0.2.2.2.2.2.1 (C0.2.2.2.2.2.2.1 _ hcl) (show (Cond.arrayOver (.object C)).before args s = true from hov s C0.2.2.2.2.2.2.2.2.1.2) rfl hd rfl hn0 (by rw [hnN]; omega) hc1 (by rw [hnN]; exact hc2) fun cA kA comp h1 h2 h3 h4 => ?_
  obtain ⟨kB, comp2, -, -, -, k4⟩ := (C0.2.2.2.2.2.2.2.2.1.1.2 t _ hty).2
  have hcA : cA = Γ.cy t := Option.some.inj (h1.symm.trans k4)
  subst hcA
  rw [hnN]
  refine kk _ (by simp) (fun q hq => by rw [Array.getElem?_push, if_neg (Nat.ne_of_lt hq)]) (am_atA (a := a) hck ?_)
  rw [am_aV_zero hck (by omega) (show am_zero c (G.2 c) I Lg R (am_newG G c) from hz), show (am_dv a) = .null by match a, ha with | 3, _ => rfl | 4, _ => rfl, ← arrV_new]
  simp
end ANEW
