/-! multianewarray. -/
section MNEW2
variable {Γ : AMG} {M : MD} {Q : QQ} {d k n pc : Nat} {L : LL} {st : List AV} {I : II} {Lg : LJ} {R : RR} {G : GG}
theorem mn_ext {ρ : Nat → Nat → Nat} {a : Nat} (h1 : G.2 23 = 0) (h2 : G.2 115 = 0) : am_Ext ρ G (mnρ ρ a) (mnG G) := by
  refine ⟨fun c => ?_, fun c i h => ?_⟩
  · show _ ≤ (if c = 23 then 1 else if c = 115 then 28 else G.2 c)
    by_cases e : c = 23
    · rw [if_pos e, e, h1]; omega
    · rw [if_neg e]
      by_cases e2 : c = 115
      · rw [if_pos e2, e2, h2]; omega
      · rw [if_neg e2]; exact Nat.le_refl _
  · rcases h with ⟨h3, h4⟩ | h3
    · exact mnρ_old (fun q => by rw [q.1, h1] at h4; omega) (fun q => by rw [q, h2] at h4; omega)
    · have h4 : (117 : Nat) ≤ c := h3
      exact mnρ_old (fun q => by omega) (by omega)
theorem ar_mnew {idx : Nat} (ho1 : G.1 1000 115 0 = false) (h1 : G.2 23 = 0) (h2 : G.2 115 = 0) (hcl : Cond.classLink M.1 idx "[[I" ∈ am_BIG) (hov : ∀ U, Γ.KX U → va_Nw (.arrayOver (.array .int)) U) (harr : Cond.arrayClass .int ∈ am_BIG)
    (hd : decode M.2.2.1 pc = .ok (.multianewarray idx 2, 4)) (h : am_J Γ M Q d k n (pc + 4) L (vR 23 0 :: st) I Lg R (mnG G)) : am_J Γ M Q d (k + 29) (n + 812) pc L (vI (zI 28) :: vI (zI 28) :: st) I Lg R G := by
  intro ρ p e Rm s m args below meth c0 H locs cells slots Z C g1 g2 g3 g4 hW hl hoL hoS ret ls hL
  have hts := C.2.2.2.2.2.2.1
  have hK := C.2.2.2.2.2.2.2.2.1.1
  have hext : am_Ext ρ G (mnρ ρ H.size) (mnG G) := mn_ext h1 h2
  have hn28 : (zI 28).toNatClampNeg = 28 := by decide
  have hn0 : ¬ zI 28 < 0 := by decide
  have hc1 : cells + (1 + (zI 28).toNatClampNeg) ≤ Rm.cells := by
    generalize (zI 28).toNatClampNeg = z at hn28
    subst hn28
    omega
  have h812 : 28 + 28 * 28 ≤ n + 812 := Nat.le_add_left 812 n
  have hc2 : slots + ((zI 28).toNatClampNeg + (zI 28).toNatClampNeg * (zI 28).toNatClampNeg) ≤ Rm.slots := by
    generalize (zI 28).toNatClampNeg = z at hn28
    subst hn28
    exact Nat.le_trans (Nat.add_le_add_left h812 slots) g4
  intro T hT X
  obtain ⟨vm₁, cA, comp, hfA, hfC, X1, step⟩ := mn_step X C.1 (own := M.1) (idx := idx) C.2.2.2.2.2.1 (hts _ hcl) (show (Cond.arrayOver (.array .int)).before args s = true from hov s C.2.2.2.2.2.2.2.2.1.2) (hts _ harr) (g := F0 m pc ls ((vI (zI 28) :: vI (zI 28) :: st).map (am_con ρ))) rfl (by rw [C.2.1]; exact hd) (n := zI 28) (k := zI 28) (rest := st.map (am_con ρ)) rfl hn0 hn0 (Nat.le_trans (Nat.le_of_eq hn28) (by omega)) (Nat.le_trans (Nat.le_of_eq hn28) (by omega)) hc1 hc2
  rw [hn28] at X1 step
  have hcA : cA = Γ.cy 7 := by
    obtain ⟨-, hA⟩ := hK.2 7 (Γ.cy 7, .array .int) rfl
    exact Option.some.inj (hfA.symm.trans hA)
  have hcC : comp = Γ.cy 0 := by
    obtain ⟨-, hA⟩ := hK.2 0 (Γ.cy 0, .int) rfl
    exact Option.some.inj (hfC.symm.trans hA)
  subst hcA
  subst hcC
  have hTH : (T.setVm vm₁).heap = H := hT
  have f1 := mnS_sz (s := T.setVm vm₁) (cA := Γ.cy 7) (cC := Γ.cy 0) (N := 28) (K := 28) 28
  have f2 := mnS_own (s := T.setVm vm₁) (cA := Γ.cy 7) (cC := Γ.cy 0) (N := 28) (K := 28) 28
  rw [hTH] at f1 f2
  have f3 : ∀ q, q < H.size → (mnS (T.setVm vm₁) (Γ.cy 7) (Γ.cy 0) 28 28 28).heap[q]? = H[q]? := fun q hq => by
    rw [mnS_old (by rw [hTH]; exact hq), hTH]
  have f4 : ∀ j, j < 28 → (mnS (T.setVm vm₁) (Γ.cy 7) (Γ.cy 0) 28 28 28).heap[H.size + 1 + j]? = some (arrV (Γ.cy 0) 28 (fun _ => .int 0)) := fun j hj => by
    have := mnS_in (s := T.setVm vm₁) (cA := Γ.cy 7) (cC := Γ.cy 0) (N := 28) (K := 28) 28 j hj
    rw [hTH] at this
    exact this
  have hW1 := hW.mnew ho1 h1 h2 f1 f3 f2 f4
  have hcon : ∀ v, am_ok G v → am_con (mnρ ρ H.size) v = am_con ρ v := fun v hv => am_con_ok hext hv
  have hokx : ∀ v, am_ok G v → am_ok (mnG G) v := fun v hv => am_ok_ext hext hv
  have hoS' : ∀ v ∈ st, am_ok G v := fun v hv => hoS v (List.mem_cons_of_mem _ (List.mem_cons_of_mem _ hv))
  obtain ⟨t, a1, b1⟩ := h (mnρ ρ H.size) p e Rm s m args below meth c0 _ locs (cells + 1 + 28) (slots + 28 + 28 * 28) Z C g1 g2 (by omega) (by omega) hW1 hl ⟨hoL.1, fun v hv => hokx v (hoL.2 v hv)⟩ (am_okS.cons (v := vR 23 0) (Or.inl ⟨by decide, by show 0 < 1; omega⟩) (fun v hv => hokx v (hoS' v hv)))
    (fun ρ' r I2 Lg2 R2 G2 H2 locs2 cells2 slots2 pc2 ls2 a1 a2 a3 a4 a5 a6 a7 a8 => ret ρ' r I2 Lg2 R2 G2 H2 locs2 cells2 slots2 pc2 ls2 a1 (hext.tr a2) a3 a4 (by omega) (by omega) a7 a8) ls ⟨hL.1, hL.2.1, fun j v hv => by rw [hcon v (hoL.at hv)]; exact hL.2.2 j v hv⟩ _ rfl X1
  refine ⟨t, step t ?_, b1⟩
  have e1 : (vR 23 0 :: st).map (am_con (mnρ ρ H.size)) = .ref T.heap.size :: st.map (am_con ρ) := by
    rw [List.map_cons, hT, List.map_congr_left (fun v hv => hcon v (hoS' v hv))]
    exact congrArg (fun x => Value.ref x :: st.map (am_con ρ)) (show mnρ ρ H.size 23 0 = H.size from rfl)
  rw [e1] at a1
  exact a1
end MNEW2
