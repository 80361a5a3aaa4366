/-! The carpenter lays. -/
def FrL (k : Nat) (I I' : II) : Prop := ∀ v i j, (crw6.elem v = false ∨ j ≤ k) → (v ≠ 88 ∨ j < k) → v ≠ 15 → v ≠ 89 → (bvars.elem v = false ∨ i ≠ 26) → I' v i j = I v i j
theorem FrL.rf {k : Nat} {I : II} : FrL k I I := fun _ _ _ _ _ _ _ _ => rfl
theorem FrL.tr {k : Nat} {I I1 I2 : II} (h : FrL k I I1) (h2 : FrL k I1 I2) : FrL k I I2 := fun v i j a b c d e => (h2 v i j a b c d e).trans (h v i j a b c d e)
theorem FrL.dn {k : Nat} {I I' : II} (h : FrL (k + 1) I I') : FrL k I I' := fun v i j a b c d e => h v i j (a.elim Or.inl (fun q => Or.inr (by omega))) (b.elim Or.inl (fun q => Or.inr (by omega))) c d e
theorem FrB.l {k : Nat} {I I' : II} (h : FrB (k + 1) I I') : FrL k I I' := fun v i j a _ _ _ e => h v i j (a.elim Or.inl (fun q => Or.inr (by omega))) e
abbrev lov : List Nat := [82, 83, 84, 85, 86, 87, 88, 15, 89]
def VLO : Nat → Nat → Bool := fun v i => V0 lov v i || V1 bvars 26 v i
theorem VLO_out {vs : List Nat} (h : vs.all (fun v => !lov.elem v && !bvars.elem v) = true) : ∀ v ∈ vs, ∀ i, VLO v i = false := by
  intro v hv i
  have h1 := List.all_eq_true.mp h v hv
  rw [Bool.and_eq_true, Bool.not_eq_true', Bool.not_eq_true'] at h1
  unfold VLO V0 V1
  rw [h1.1, h1.2]
  rfl
theorem FrL.fr {k : Nat} {I I' : II} (h : FrL k I I') : FrI VLO I I' := fun v i hv => by
  funext j
  unfold VLO at hv
  obtain ⟨q1, q2⟩ := Bool.or_eq_false_iff.mp hv
  have n1 : crw6.elem v = false := V0_sub (l := crw6) (l2 := lov) (i := i) (by decide) q1
  have ne : ∀ u, lov.elem u = true → v ≠ u := fun u hu z => by
    rw [z] at q1
    unfold V0 at q1
    rw [hu] at q1
    cases q1
  refine h v i j (Or.inl n1) (Or.inl (ne _ rfl)) (ne _ rfl) (ne _ rfl) ?_
  unfold V1 at q2
  rcases Bool.and_eq_false_iff.mp q2 with q | q
  · exact Or.inl q
  · exact Or.inr (beq_eq_false_iff_ne.mp q)
theorem StockAt.fr {I I' : II} {R : RR} {bd : List BD} {Pr : Nat → Nat → Bool} (h : StockAt I R bd) (hf : FrI Pr I I') (h1 : Pr 46 0 = false) (h2 : ∀ v ∈ rvars, ∀ i, Pr v i = false) : StockAt I' R bd := ⟨by rw [hf _ _ h1]; exact h.1, fun k x hx => by
  obtain ⟨bo, b1, b2⟩ := h.2 k x hx
  exact ⟨bo, b1, b2.fr hf h2⟩⟩
theorem FrL.row {k : Nat} {I I' : II} {w : CRW} (h : FrL k I I') (hw : CRAt I k w) : CRAt I' k w := by
  obtain ⟨w1, w2, w3, w4, w5, w6⟩ := hw
  refine ⟨?_, ?_, ?_, ?_, ?_, ?_⟩ <;> rw [h _ _ _ (Or.inr (Nat.le_refl _)) (Or.inl (by decide)) (by decide) (by decide) (Or.inl rfl)] <;> assumption
theorem LaidAt.eq {I : II} {q q2 : List Nat} (h : LaidAt I q) (he : ∀ j, j < 4 → q2.getD j 0 = q.getD j 0) : LaidAt I q2 := fun j hj => by rw [he j hj]; exact h j hj
theorem pad_get {pre : List Nat} {b m : Nat} (j : Nat) : (pre ++ b :: List.replicate m 0).getD j 0 = (pre ++ [b]).getD j 0 := by
  have e : pre ++ b :: List.replicate m 0 = (pre ++ [b]) ++ List.replicate m 0 := by rw [List.append_assoc]; rfl
  rw [e]
  simp only [List.getD]
  by_cases h : j < (pre ++ [b]).length
  · rw [List.getElem?_append_left h]
  · rw [List.getElem?_append_right (by omega), List.getElem?_eq_none (by omega : (pre ++ [b]).length ≤ j)]
    cases hx : (List.replicate m 0)[j - (pre ++ [b]).length]? with
    | none => rfl
    | some x =>
      have := List.mem_of_getElem? hx
      rw [(List.mem_replicate.mp this).2]
      rfl
theorem getD_app {pre : List Nat} {b k : Nat} (hl : pre.length = k) {I : II} (h : ∀ j, j < k → I 88 0 j = zI (pre.getD j 0)) (hk : I 88 0 k = zI b) : ∀ j, j < k + 1 → I 88 0 j = zI ((pre ++ [b]).getD j 0) := fun j hj => by
  by_cases q : j = k
  · subst q
    rw [hk]
    simp [List.getD, List.getElem?_append_right (by omega : pre.length ≤ j), hl]
  · rw [h j (by omega)]
    simp only [List.getD]
    rw [List.getElem?_append_left (by omega)]
theorem layF_rng {bds : List BD} {nW : Nat} {W : Nat → Int} {c m : Nat} {pre : List Nat} {w : CRW} {st : Int × List Nat} (h : ∀ s ∈ seqs c m, 0 ≤ errS bds nW W s w) (h0 : 0 ≤ st.1) : 0 ≤ (layF bds nW W c m pre w st).1 ∧ (layF bds nW W c m pre w st).1 ≤ st.1 := by
  unfold layF
  generalize seqs c m = l at h
  induction l generalizing st with
  | nil => exact ⟨h0, Int.le_refl _⟩
  | cons x l ih =>
    rw [List.foldl_cons]
    have hx := h x List.mem_cons_self
    have hu : 0 ≤ (updL st (errS bds nW W x w) (pre ++ x)).1 ∧ (updL st (errS bds nW W x w) (pre ++ x)).1 ≤ st.1 := by
      unfold updL
      split
      · exact ⟨hx, by dsimp only; omega⟩
      · exact ⟨h0, Int.le_refl _⟩
    have := ih hu.1 (fun s hs => h s (List.mem_cons_of_mem _ hs))
    omega
set_option maxRecDepth 100000 in
theorem s_layOn {Γ : AMG} {d n c : Nat} {Lg : LJ} {R : RR} {gc : Nat → Nat} {bd : List BD} {nW : Nat} {W : Nat → Int} (hbd : BDsok bd) (hn : n ≤ 4) (hc0 : 0 < c) (hc8 : c ≤ 8) (hcb : c ≤ bd.length) :
    ∀ (m k : Nat) (pre : List Nat) (w : CRW) (st : Int × List Nat) (I : II) (x3 : Int32) (Q : QQ), k + (m + 1) = n → pre.length = k → x3 = zI k → StockAt I R bd → TKAt I nW W → I 13 0 0 = zI n → I 14 0 0 = zI c → CRAt I k w → CRok w → w.2.2.2.2.1 ≤ k → w.2.2.2.2.2 ≤ 65535 * k → (∀ j, j < k → I 88 0 j = zI (pre.getD j 0)) → I 15 0 0 = zI st.1 → (0 ≤ st.1 ∧ st.1 ≤ 100000000) → LaidAt I st.2 →
      (∀ I' : II, FrL k I I' → I' 15 0 0 = zI (layF bd nW W c (m + 1) pre w st).1 → LaidAt I' (layF bd nW W c (m + 1) pre w st).2 → Q none I' Lg R (GM gc)) →
      am_Sp Γ (d + (m + 1) + 4) 0 0 mX2_layOn [vR 2 0, vR 60 0, vR 10 0, vI x3] I Lg R (GM gc) Q := by
  have hbl := hbd.1
  intro m
  induction m using Nat.strongRecOn with
  | ind m ih =>
  intro k pre w st I x3 Q hkn hpl hx3 hst hT hmany hcho hw hok hwk hws hch hle hler hla h
  have h3 : x3.toInt = k := by rw [hx3, zI_toInt (by omega) (by omega)]
  have h3n : x3.toInt.toNat = k := by omega
  have hnt : (I 13 0 0).toInt = n := by rw [hmany, zI_toInt (by omega) (by omega)]
  have hnW := hT.2.1
  have hWr := hT.2.2.2
  obtain ⟨e1, e2, e3, ⟨e4, e5⟩, e6, e7⟩ := id hok
  rw [layF_s] at h
  -- the loop
  have loop : ∀ (q b : Nat) (x4 : Int32) (l5 : Option AV) (I1 : II) (s1 : Int × List Nat), b + q = c → x4 = zI b → FrL k I I1 → I1 15 0 0 = zI s1.1 → (0 ≤ s1.1 ∧ s1.1 ≤ 100000000) → LaidAt I1 s1.2 → (List.range c).foldl (fun st b => layB bd nW W c m pre w st b) st = ((List.range c).drop b).foldl (fun st b => layB bd nW W c m pre w st b) s1 →
      am_J Γ mX2_layOn Q (d + (m + 1) + 4) 0 0 21 [some (vR 2 0), some (vR 60 0), some (vR 10 0), some (vI x3), some (vI x4), l5] [] I1 Lg R (GM gc) := by
    intro q
    induction q with
    | zero =>
      intro b x4 l5 I1 s1 hb hx4 f1 hle1 hler1 hla1 heq
      have hct : (I1 14 0 0).toInt = c := by rw [f1.fr _ _ (VLO_out (vs := [14]) (by decide) _ (by decide) _), hcho, zI_toInt (by omega) (by omega)]
      refine am_J.er [true, true, true, true, true, false] ?_
      refine am_goN vX2_layOn 4 ?_
      refine And.intro (fun _ => ?_) (fun c1 => ?_)
      · refine am_goN vX2_layOn 3 ?_
        rw [List.drop_of_length_le (by rw [List.length_range]; omega)] at heq
        refine h I1 f1 ?_ ?_
        · rw [heq]; exact hle1
        · rw [heq]; exact hla1
      · rw [hct, hx4, zI_toInt (by omega) (by omega)] at c1
        omega
    | succ q ihq =>
      intro b x4 l5 I1 s1 hb hx4 f1 hle1 hler1 hla1 heq
      have F1 := f1.fr
      have hct : (I1 14 0 0).toInt = c := by rw [F1 _ _ (VLO_out (vs := [14]) (by decide) _ (by decide) _), hcho, zI_toInt (by omega) (by omega)]
      have h4 : x4.toInt = b := by rw [hx4, zI_toInt (by omega) (by omega)]
      have h4n : x4.toInt.toNat = b := by omega
      have hbx : bd[b]? = some bd[b] := List.getElem?_eq_getElem (by omega)
      generalize bd[b] = x at hbx
      have hbok := hbd.2 b x hbx
      obtain ⟨bo, hR, hB⟩ := (hst.fr F1 (VLO_out (vs := [46]) (by decide) _ (by decide) _) (VLO_out (by decide))).2 b x hbx
      rw [List.drop_eq_getElem_cons (by rw [List.length_range]; omega), List.foldl_cons, List.getElem_range] at heq
      -- on to the next board
      have k132 : ∀ (l6 : Option AV) (I9 : II) (s9 : Int × List Nat), FrL k I I9 → I9 15 0 0 = zI s9.1 → (0 ≤ s9.1 ∧ s9.1 ≤ 100000000) → LaidAt I9 s9.2 → s9 = layB bd nW W c m pre w s1 b → am_J Γ mX2_layOn Q (d + (m + 1) + 4) 0 0 132 [some (vR 2 0), some (vR 60 0), some (vR 10 0), some (vI x3), some (vI x4), l6] [] I9 Lg R (GM gc) := by
        intro l6 I9 s9 f9 hle9 hler9 hla9 hs9
        rw [← hs9] at heq
        refine am_J.er [true, true, true, true, true, false] ?_
        refine am_goN vX2_layOn 2 ?_
        refine fun y4 ey4 => ?_
        exact ihq (b + 1) y4 _ I9 s9 (by omega) (by rw [ey4, hx4, zI_add]; congr 1) f9 hle9 hler9 hla9 heq
      refine am_J.er [true, true, true, true, true, false] ?_
      refine am_goN vX2_layOn 4 ?_
      refine And.intro (fun c1 => ?_) (fun _ => ?_)
      · rw [hct, h4] at c1
        omega
      refine am_goN vX2_layOn 4 ?_
      refine And.intro (fun c1 => ?_) (fun _ => ?_)
      · rw [h4, zI_toInt (by omega) (by omega)] at c1
        omega
      refine am_goN vX2_layOn 5 ?_
      refine And.intro ⟨by omega, by omega⟩ ?_
      rw [h3n]
      refine fun y2 ey2 I2 e2' => ?_
      have f2 : FrL k I1 I2 := by
        rw [e2']
        intro v i j _ hv _ _ _
        unfold up3
        rw [if_neg]
        rintro ⟨z1, -, z2⟩
        rcases hv with hv | hv
        · exact hv z1
        · omega
      have f02 : FrL k I I2 := f1.tr f2
      have F2 := f02.fr
      have hch2 : ∀ j, j < k + 1 → I2 88 0 j = zI ((pre ++ [b]).getD j 0) := by
        refine getD_app hpl (fun j hj => ?_) ?_
        · rw [f02 _ _ _ (Or.inl rfl) (Or.inr hj) (by decide) (by decide) (Or.inl rfl)]
          exact hch j hj
        · rw [e2', up3_s, ey2, hx4]
      have hB2 : BoardAt I2 bo x := hB.fr f2.fr (VLO_out (by decide))
      have hT2 : TKAt I2 nW W := hT.fr F2 (VLO_out (vs := [40]) (by decide) _ (by decide) _) (VLO_out (vs := [124]) (by decide) _ (by decide) _)
      have hw2 : CRAt I2 k w := f02.row hw
      have hle2 : I2 15 0 0 = zI s1.1 := by rw [e2', up3_v _ (by decide)]; exact hle1
      have hla2 : LaidAt I2 s1.2 := fun j hj => by rw [e2', up3_v _ (by decide)]; exact hla1 j hj
      have kn2 : (0 : Int) ≤ w.2.2.2.2.1 ∧ w.2.2.2.2.1 ≤ 1000 := by omega
      refine am_goN vX2_layOn 3 ?_
      refine And.intro ⟨by omega, by omega⟩ ?_
      rw [h4n]
      refine And.intro (fun c1 => ?_) (fun bo1 hbo1 => ?_)
      · rw [hR] at c1; cases c1
      refine am_goN vX2_layOn 5 ?_
      refine And.intro ⟨by omega, by omega⟩ ?_
      rw [h4n]
      refine And.intro (fun c1 => ?_) (fun bo2 hbo2 => ?_)
      · rw [hR] at c1; cases c1
      rw [hR] at hbo2
      have hbo2 := Option.some.inj hbo2
      subst hbo2
      refine am_goN vX2_layOn 4 ?_
      refine s_passes hbok hB2 hT2 hw2 hok hx3 (by omega) (fun hl I3 B3 => ?_) (fun w' hl I3 B3 w3 => ?_)
      · -- the ball doesn't get over it
        have f3 : FrL k I2 I3 := B3.l
        have f03 : FrL k I I3 := f02.tr f3
        have hle3 : I3 15 0 0 = zI s1.1 := by rw [B3 _ _ _ (Or.inl rfl) (Or.inl rfl)]; exact hle2
        have hla3 : LaidAt I3 s1.2 := fun j hj => by rw [B3 _ _ _ (Or.inl rfl) (Or.inl rfl)]; exact hla2 j hj
        have hB9 := layB_none (nW := nW) (W := W) (m := m) (pre := pre) (st := s1) hc0 hbx hl
        refine And.intro (fun _ => ?_) (fun c1 => ?_)
        · refine am_goN vX2_layOn 2 ?_
          refine fun x5 ex5 => ?_
          refine am_goN vX2_layOn 2 ?_
          refine And.intro (fun _ => ?_) (fun c1 => ?_)
          · refine am_goN vX2_layOn 5 ?_
            refine And.intro (fun _ => ?_) (fun c1 => ?_)
            · refine am_goN vX2_layOn 3 ?_
              have w3 : CRAt I3 k w := f3.row hw2
              refine s_judge (pre := pre ++ [b]) (dep := k) (row := k) (kn := w.2.2.2.2.1) (sm := w.2.2.2.2.2) (le := s1.1) (hT2.fr B3.fr rfl rfl) hx3 hx3 (by omega) (by omega) (by rw [List.length_append, hpl]; rfl) (fun j hj => by rw [B3 _ _ _ (Or.inl rfl) (Or.inl rfl)]; exact hch2 j (by omega)) w3.2.2.2.2.1 w3.2.2.2.2.2 kn2 ⟨e6, e7⟩ hle3 hler1 (fun hN => ?_) (fun hY I4 f4 l4 la4 => ?_)
              · unfold updL at hB9
                rw [if_neg hN] at hB9
                exact k132 _ I3 s1 f03 hle3 hler1 hla3 hB9.symm
              · unfold updL at hB9
                rw [if_pos hY] at hB9
                have f04 : FrL k I I4 := f03.tr (fun v i j _ _ q1 q2 _ => by rw [f4 v i (by unfold V0; simp [q1, q2])])
                refine k132 _ I4 _ f04 l4 ⟨by unfold errV; omega, by omega⟩ (la4.eq (fun j _ => pad_get j)) hB9.symm
            · rw [ex5, zI_toInt (by omega) (by omega)] at c1
              exact absurd rfl c1
          · rw [ex5, zI_toInt (by omega) (by omega)] at c1
            exact absurd rfl c1
        · rw [zI_toInt (by omega) (by omega)] at c1
          exact absurd rfl c1
      · -- it gets over it
        have f3 : FrL k I2 I3 := B3.l
        have f03 : FrL k I I3 := f02.tr f3
        have hle3 : I3 15 0 0 = zI s1.1 := by rw [B3 _ _ _ (Or.inl rfl) (Or.inl rfl)]; exact hle2
        have hla3 : LaidAt I3 s1.2 := fun j hj => by rw [B3 _ _ _ (Or.inl rfl) (Or.inl rfl)]; exact hla2 j hj
        have hch3 : ∀ j, j < k + 1 → I3 88 0 j = zI ((pre ++ [b]).getD j 0) := fun j hj => by rw [B3 _ _ _ (Or.inl rfl) (Or.inl rfl)]; exact hch2 j hj
        have hT3 : TKAt I3 nW W := hT2.fr B3.fr rfl rfl
        have hB9 := layB_some (c := c) (m := m) (pre := pre) (st := s1) hbx hl
        obtain ⟨q1, q2, q3, q4, q5⟩ := lay1_ok hbok hWr hok hl
        have hok' : CRok w' := ⟨q1, q2, q3, ⟨by omega, by omega⟩, by omega, by omega⟩
        have hpl' : (pre ++ [b]).length = k + 1 := by rw [List.length_append, hpl]; rfl
        have hx31 : x3 + zI 1 = zI ((k + 1 : Nat) : Int) := by rw [hx3, zI_add]; congr 1
        have h31 : (x3 + zI 1).toInt = (k + 1 : Nat) := by rw [hx31, zI_toInt (by omega) (by omega)]
        have hm3 : I3 13 0 0 = zI n := by rw [f03.fr _ _ (VLO_out (vs := [13]) (by decide) _ (by decide) _)]; exact hmany
        have hm3t : (I3 13 0 0).toInt = n := by rw [hm3, zI_toInt (by omega) (by omega)]
        refine And.intro (fun c1 => ?_) (fun _ => ?_)
        · have c1 : (zI 1).toInt = 0 := c1
          rw [zI_toInt (by omega) (by omega)] at c1
          omega
        refine am_goN vX2_layOn 3 ?_
        refine fun x5 ex5 => ?_
        have hx5 : x5.toInt = 1 := by rw [ex5, zI_toInt (by omega) (by omega)]
        refine am_goN vX2_layOn 2 ?_
        refine And.intro (fun c1 => ?_) (fun _ => ?_)
        · rw [hx5] at c1
          omega
        refine am_goN vX2_layOn 6 ?_
        refine And.intro (fun c1 => ?_) (fun c1 => ?_)
        · rw [h31, hm3t] at c1
          cases m with
          | zero => omega
          | succ m' =>
            refine am_goN vX2_layOn 6 ?_
            refine s_leastPossible (row := k + 1) (many := n) (kn := w'.2.2.2.2.1) (sm := w'.2.2.2.2.2) hT3 hx31 (by omega) hm3 hn w3.2.2.2.2.1 w3.2.2.2.2.2 ⟨by omega, by omega⟩ ⟨by omega, by omega⟩ ?_
            have hlp : (I3 15 0 0).toInt = s1.1 := by rw [hle3, zI_toInt (by omega) (by omega)]
            have hvt : (zI (w'.2.2.2.2.2 + 100 * max 0 (nW - w'.2.2.2.2.1 - ((n : Int) - (k + 1 : Nat))))).toInt = w'.2.2.2.2.2 + 100 * max 0 (nW - w'.2.2.2.2.1 - ((n : Int) - (k + 1 : Nat))) := zI_toInt (by omega) (by omega)
            refine am_goN vX2_layOn 3 ?_
            refine And.intro (fun c2 => ?_) (fun c2 => ?_)
            · rw [hvt, hlp] at c2
              have hge : layF bd nW W c (m' + 1) (pre ++ [b]) w' s1 = s1 := layF_ge (fun s hs => by
                have hsl := seqs_len _ _ hs
                have := errS_ge (nW := nW) (bds := bd) (fun j b hj => hbd.2 j b hj) hWr s w' hok' (by omega) (by omega)
                omega)
              rw [hge] at hB9
              exact k132 _ I3 s1 f03 hle3 hler1 hla3 hB9.symm
            · rw [hvt, hlp] at c2
              refine am_goN vX2_layOn 7 ?_
              refine ih m' (by omega) (k + 1) (pre ++ [b]) w' s1 I3 _ _ (by omega) hpl' hx31 (hst.fr f03.fr (VLO_out (vs := [46]) (by decide) _ (by decide) _) (VLO_out (by decide))) hT3 hm3 (by rw [f03.fr _ _ (VLO_out (vs := [14]) (by decide) _ (by decide) _)]; exact hcho) w3 hok' (by omega) (by omega) hch3 hle3 hler1 hla3 (fun I4 f4 l4 la4 => ?_)
              have hr4 : 0 ≤ (layF bd nW W c (m' + 1) (pre ++ [b]) w' s1).1 ∧ (layF bd nW W c (m' + 1) (pre ++ [b]) w' s1).1 ≤ 100000000 := by
                have := layF_rng (bds := bd) (nW := nW) (W := W) (c := c) (m := m' + 1) (pre := pre ++ [b]) (w := w') (st := s1) (fun s hs => by
                  have hsl := seqs_len _ _ hs
                  have := errS_ge (nW := nW) (bds := bd) (fun j b hj => hbd.2 j b hj) hWr s w' hok' (by omega) (by omega)
                  omega) hler1.1
                omega
              exact k132 _ I4 _ (f03.tr f4.dn) l4 hr4 la4 hB9.symm
        · rw [h31, hm3t] at c1
          have hm0 : m = 0 := by omega
          subst hm0
          refine am_goN vX2_layOn 5 ?_
          refine And.intro (fun c2 => ?_) (fun _ => ?_)
          · rw [hx5] at c2
            omega
          refine am_goN vX2_layOn 6 ?_
          refine s_judge (pre := pre ++ [b]) (dep := k) (row := k + 1) (kn := w'.2.2.2.2.1) (sm := w'.2.2.2.2.2) (le := s1.1) hT3 hx3 hx31 (by omega) (by omega) hpl' (fun j hj => hch3 j (by omega)) w3.2.2.2.2.1 w3.2.2.2.2.2 ⟨by omega, by omega⟩ ⟨by omega, by omega⟩ hle3 hler1 (fun hN => ?_) (fun hY I4 f4 l4 la4 => ?_)
          · have hB9 : layB bd nW W c 0 pre w s1 b = updL s1 (errV nW w'.2.2.2.2.1 w'.2.2.2.2.2) (pre ++ [b] ++ []) := hB9
            unfold updL at hB9
            rw [if_neg hN] at hB9
            exact k132 _ I3 s1 f03 hle3 hler1 hla3 hB9.symm
          · have hB9 : layB bd nW W c 0 pre w s1 b = updL s1 (errV nW w'.2.2.2.2.1 w'.2.2.2.2.2) (pre ++ [b] ++ []) := hB9
            unfold updL at hB9
            rw [if_pos hY, List.append_nil] at hB9
            have f04 : FrL k I I4 := f03.tr (fun v i j _ _ q1 q2 _ => by rw [f4 v i (by unfold V0; simp [q1, q2])])
            exact k132 _ I4 _ f04 l4 ⟨by unfold errV; omega, by omega⟩ la4 hB9.symm
  refine am_runN vX2_layOn 2 _ rfl rfl rfl rfl ?_
  refine And.intro (fun c1 => ?_) (fun _ => ?_)
  · omega
  refine am_goN vX2_layOn 4 ?_
  refine And.intro (fun c1 => ?_) (fun _ => ?_)
  · rw [h3, hnt] at c1
    omega
  refine am_goN vX2_layOn 3 ?_
  refine And.intro (fun _ => ?_) (fun c1 => ?_)
  · refine am_goN vX2_layOn 2 ?_
    refine fun x4 ex4 => ?_
    exact loop c 0 x4 _ I st (by omega) ex4 FrL.rf hle hler hla (by rw [List.drop_zero])
  · rw [h3, zI_toInt (by omega) (by omega)] at c1
    omega
