/-! Worn steps, the class: the search. -/
def FrWO (k : Nat) (I I' : II) : Prop := ∀ v i j, (crw7.elem v = false ∨ j < k) → (bvars.elem v = false ∨ i ≠ 26) → v ≠ 15 → v ≠ 12 → I' v i j = I v i j
theorem FrWO.rf {k : Nat} {I : II} : FrWO k I I := fun _ _ _ _ _ _ _ => rfl
theorem FrWO.tr {k : Nat} {I I1 I2 : II} (h : FrWO k I I1) (h2 : FrWO k I1 I2) : FrWO k I I2 := fun v i j a b c e => (h2 v i j a b c e).trans (h v i j a b c e)
theorem FrWO.dn {k : Nat} {I I' : II} (h : FrWO (k + 1) I I') : FrWO k I I' := fun v i j a b c e => h v i j (a.elim Or.inl (fun q => Or.inr (by omega))) b c e
theorem FrCp.wo {k : Nat} {I I' : II} (h : FrCp k I I') : FrWO k I I' := fun v i j a b _ _ => h v i j a b
abbrev wov : List Nat := [82, 83, 84, 85, 86, 87, 88, 15, 12]
def VWO : Nat → Nat → Bool := fun v i => V0 wov v i || V1 bvars 26 v i
theorem VWO_out {vs : List Nat} (h : vs.all (fun v => !wov.elem v && !bvars.elem v) = true) : ∀ v ∈ vs, ∀ i, VWO v i = false := by
  intro v hv i
  have h1 := List.all_eq_true.mp h v hv
  rw [Bool.and_eq_true, Bool.not_eq_true', Bool.not_eq_true'] at h1
  unfold VWO V0 V1
  rw [h1.1, h1.2]
  rfl
theorem FrWO.fr {k : Nat} {I I' : II} (h : FrWO k I I') : FrI VWO I I' := fun v i hv => by
  funext j
  unfold VWO at hv
  obtain ⟨q1, q2⟩ := Bool.or_eq_false_iff.mp hv
  have n1 : crw7.elem v = false := V0_sub (l := crw7) (l2 := wov) (i := i) (by decide) q1
  have ne : ∀ u, wov.elem u = true → v ≠ u := fun u hu z => by
    rw [z] at q1
    unfold V0 at q1
    rw [hu] at q1
    cases q1
  refine h v i j (Or.inl n1) ?_ (ne _ rfl) (ne _ rfl)
  unfold V1 at q2
  rcases Bool.and_eq_false_iff.mp q2 with q | q
  · exact Or.inl q
  · exact Or.inr (beq_eq_false_iff_ne.mp q)
theorem FrWO.row {k k2 : Nat} {I I' : II} {w : CRW} (h : FrWO k I I') (hlt : k2 < k) (hw : CRAt I k2 w) : CRAt I' k2 w := by
  obtain ⟨w1, w2, w3, w4, w5, w6⟩ := hw
  refine ⟨?_, ?_, ?_, ?_, ?_, ?_⟩ <;> rw [h _ _ _ (Or.inr hlt) (Or.inl rfl) (by decide) (by decide)] <;> assumption
theorem updW_rng : ∀ (l : List (Int × Nat)) (st : Int × Nat) (lo : Int), lo ≤ st.1 → (∀ x ∈ l, lo ≤ x.1) → lo ≤ (l.foldl updW st).1 ∧ (l.foldl updW st).1 ≤ st.1
  | [], _, _, h, _ => ⟨h, Int.le_refl _⟩
  | x :: l, st, lo, h, hx => by
    rw [List.foldl_cons]
    have h1 := hx x List.mem_cons_self
    have hu : lo ≤ (updW st x).1 ∧ (updW st x).1 ≤ st.1 := by
      unfold updW
      split <;> omega
    have := updW_rng l (updW st x) lo hu.1 (fun y hy => hx y (List.mem_cons_of_mem _ hy))
    omega
theorem wearF_rng {rn : RUN} {nW : Nat} {W : Nat → Int} {f : Nat} {w : CRW} {ch : Nat} {st : Int × Nat} (h : w.2.2.2.2.2 < st.1) : w.2.2.2.2.2 ≤ (wearF rn nW W f w ch st).1 ∧ (wearF rn nW W f w ch st).1 ≤ st.1 := by
  rw [wearF_eq f w ch st h]
  exact updW_rng _ st _ (by omega) (fun x hx => wlv_ge f w ch x hx)
set_option maxRecDepth 100000 in
theorem s_wearOn {Γ : AMG} {d r nW : Nat} {Lg : LJ} {R : RR} {gc : Nat → Nat} {rn : RUN} {W : Nat → Int} (hrn : RUNok rn) (hWi : Winc nW W) :
    ∀ (f k ch : Nat) (w : CRW) (st : Int × Nat) (I : II) (x3 : Int32) (Q : QQ), k + (f + 1) = 13 → x3 = zI k → PathAt I R r rn → TKAt I nW W → CRAt I k w → WS rn nW W w → k ≤ plN rn w.2.1 → plN rn w.2.1 ≤ rn.length → ch < 2 ^ plN rn w.2.1 → I 88 0 k = zI (ch : Int) → (0 ≤ w.2.2.2.2.2 ∧ w.2.2.2.2.2 ≤ k) → w.2.2.2.2.1 ≤ k → I 15 0 0 = zI st.1 → w.2.2.2.2.2 < st.1 → st.1 ≤ 1000000 → I 12 0 0 = zI (st.2 : Int) →
      (∀ I' : II, FrWO k I I' → I' 15 0 0 = zI (wearF rn nW W (f + 1) w ch st).1 → I' 12 0 0 = zI ((wearF rn nW W (f + 1) w ch st).2 : Int) → Q none I' Lg R (GM gc)) →
      am_Sp Γ (d + f + 3) 0 0 mX2_wearOn [vR 2 0, vR 7 r, vR 10 0, vI x3] I Lg R (GM gc) Q := by
  have hlen := hrn.1
  intro f
  induction f using Nat.strongRecOn with
  | ind f ih =>
  intro k ch w st I x3 Q hk hx3 hP hT hw hws hkp hpl hch hchs hsm hknk hle hlt hst hset h
  have hnW := hT.2.1
  have h3 : x3.toInt = k := by rw [hx3, zI_toInt (by omega) (by omega)]
  have h3n : x3.toInt.toNat = k := by omega
  obtain ⟨w1, w2, w3, w4, w5, w6⟩ := id hw
  have hpl0 : 0 ≤ w.2.1 ∧ w.2.1 ≤ 255 := by
    rcases hws.2.1 with q | q
    · omega
    · have := q.1.1; have := q.1.2.1; omega
  have k0 := hws.2.2.1
  have kt : (I 86 0 k).toInt = w.2.2.2.2.1 := by rw [w5, zI_toInt (by omega) (by omega)]
  have tct : (I 40 0 0).toInt = nW := by rw [hT.1, zI_toInt (by omega) (by omega)]
  refine am_runN vX2_wearOn 2 _ rfl rfl rfl rfl ?_
  refine And.intro (fun c => ?_) (fun _ => ?_)
  · omega
  refine am_goN vX2_wearOn 3 ?_
  refine And.intro (fun _ => ?_) (fun c => ?_)
  · refine am_goN vX2_wearOn 7 ?_
    refine And.intro ⟨by omega, by omega⟩ ?_
    rw [h3n]
    refine And.intro (fun c => ?_) (fun c => ?_)
    · rw [kt, tct] at c
      have hkn : w.2.2.2.2.1 < nW := c
      refine am_goN vX2_wearOn 7 ?_
      refine And.intro ⟨by omega, by omega⟩ ?_
      rw [h3n]
      refine s_boardAt hrn hP w2 hpl0.1 (by omega) (fun e bo he hR hB => ?_) (fun hno => ?_)
      · -- there is a board
        have hl := (List.getElem?_eq_some_iff.mp he).1
        have hne : w.2.1 ≠ 255 := by omega
        have hpe : plN rn w.2.1 = w.2.1.toNat := if_neg hne
        have hb2 := hws.2.1.resolve_left hne
        have hbok := (hrn.2 _ e he).1
        have g1 := hbok.1
        have g2 := hbok.2.1
        have hd := hbok.2.2.2.2.2.2
        obtain ⟨⟨p1, p2, p3, p4, p5, p6⟩, p7⟩ := hb2
        have hpt := p7 e he
        have hwt := hws.2.2.2 hkn
        have hws1 := hws.1
        obtain ⟨f', rfl⟩ : ∃ f', f = f' + 1 := ⟨f - 1, by omega⟩
        refine am_goN vX2_wearOn 2 ?_
        refine am_goN vX2_wearOn 5 ?_
        have h31 : (x3 + zI 1).toInt = (k + 1 : Nat) := by rw [hx3, zI_add, zI_toInt (by omega) (by omega)]; omega
        have hx31 : x3 + zI 1 = zI ((k + 1 : Nat) : Int) := by rw [hx3, zI_add]; congr 1
        refine And.intro (fun _ => ?_) (fun c2 => ?_)
        · refine am_goN vX2_wearOn 3 ?_
          refine s_cload hw hx3 (by omega) (fun I1 f1 b1 => ?_)
          have C1 : FrCp k I I1 := FrI.c f1 (by decide)
          have f1o : ∀ v ∈ crw7, I1 v 0 = I v 0 := fun v hv => f1 _ _ (V1_out (vs := crw7) (by decide) _ hv _)
          have T1 : TKAt I1 nW W := hT.fr C1.fr rfl rfl
          refine am_goN vX2_wearOn 9 ?_
          refine And.intro ⟨by omega, by omega⟩ ?_
          rw [h3n]
          have hWk := hT.2.2.2 w.2.2.2.2.1.toNat
          refine s_tickAt T1 (by rw [f1o _ (by decide)]; exact w5) ⟨k0, by omega⟩ ?_
          rw [if_pos hkn]
          refine fun x5 ex5 => ?_
          have hx5 : x5 = zI (w.1 + (min 2000 (W w.2.2.2.2.1.toNat) - w.1).toNat) := by
            rw [ex5, am_min_z (by omega) (by omega) (by omega) (by omega)]
            congr 1
            omega
          refine am_goN vX2_wearOn 12 ?_
          refine And.intro ⟨by omega, by omega⟩ ?_
          rw [h3n]
          have B1 : BoardAt I1 bo e.1 := hB.fr C1.fr (VFC_out (by decide))
          have hroll : wroll rn W w = (rolE e.1 (min 2000 (W w.2.2.2.2.1.toNat) - w.1).toNat w.1 w.2.2.1 w.2.2.2.1).map (fun x => (e.1, x)) := by
            unfold wroll
            rw [he]
          refine s_rollToEnd (t := w.1) (f := (min 2000 (W w.2.2.2.2.1.toNat) - w.1).toNat) hbok B1 b1 p5 p6 p3 hpt (by rw [f1o _ (by decide)]; exact w1) hx5 ⟨by omega, by omega⟩ (fun hr I4 f4 => ?_) (fun t' p' s' hr I4 f4 b4 => ?_)
          · have hr : rolE e.1 (min 2000 (W w.2.2.2.2.1.toNat) - w.1).toNat w.1 w.2.2.1 w.2.2.2.1 = none := hr
            rw [hr] at hroll
            have hF : wearF rn nW W (f' + 1 + 1) w ch st = st := by
              unfold wearF
              rw [if_neg (by omega), hroll]
              rfl
            rw [hF] at h
            refine fun x6 ex6 => ?_
            refine And.intro (fun c6 => ?_) (fun _ => ?_)
            · rw [ex6] at c6
              exact absurd rfl c6
            refine am_goN vX2_wearOn 1 ?_
            have F4 : FrWO k I I4 := (C1.tr (FrI.c f4 (by decide))).wo
            refine h I4 F4 ?_ ?_
            · rw [f4 _ _ (V1_out (vs := [15]) (by decide) _ (by decide) _), f1 _ _ (V1_out (vs := [15]) (by decide) _ (by decide) _)]
              exact hle
            · rw [f4 _ _ (V1_out (vs := [12]) (by decide) _ (by decide) _), f1 _ _ (V1_out (vs := [12]) (by decide) _ (by decide) _)]
              exact hset
          · have hr : rolE e.1 (min 2000 (W w.2.2.2.2.1.toNat) - w.1).toNat w.1 w.2.2.1 w.2.2.2.1 = some (t', p', s') := hr
            rw [hr] at hroll
            have hroll : wroll rn W w = some (e.1, t', p', s') := hroll
            obtain ⟨r1, r2, r3, r4, r5, r6⟩ := rolE_ok hbok _ _ _ _ _ _ _ p3 hpt hr
            obtain ⟨xa, xb, b4⟩ := b4
            have hF : wearF rn nW W (f' + 1 + 1) w ch st = if w.2.2.2.2.2 < (if 0 < e.1.2.2.2.1 ∧ w.2.2.2.2.2 + 1 < st.1 then wearF rn nW W (f' + 1) (leaveR rn W w e.1 t' p' s' 1) (ch + 2 ^ w.2.1.toNat) st else st).1 then wearF rn nW W (f' + 1) (leaveR rn W w e.1 t' p' s' 0) ch (if 0 < e.1.2.2.2.1 ∧ w.2.2.2.2.2 + 1 < st.1 then wearF rn nW W (f' + 1) (leaveR rn W w e.1 t' p' s' 1) (ch + 2 ^ w.2.1.toNat) st else st) else (if 0 < e.1.2.2.2.1 ∧ w.2.2.2.2.2 + 1 < st.1 then wearF rn nW W (f' + 1) (leaveR rn W w e.1 t' p' s' 1) (ch + 2 ^ w.2.1.toNat) st else st) := by
              conv => lhs; unfold wearF
              rw [if_neg (by omega), hroll]
            rw [hF] at h
            refine fun x6 ex6 => ?_
            have h6 : x6.toInt = t' := by rw [ex6, zI_toInt (by omega) (by omega)]
            refine And.intro (fun _ => ?_) (fun c6 => ?_)
            · refine am_goN vX2_wearOn 4 ?_
              refine s_cstore b4 hx3 (by omega) ex6 (fun I5 K5 q1 q2 q3 q4 => ?_)
              have C5 : FrCp k I I5 := (C1.tr (FrI.c f4 (by decide))).tr (K5.c (by decide))
              have keep : ∀ v ∈ [86, 87, 88, 15, 12], I5 v 0 = I v 0 := fun v hv => by
                rw [K5.fr _ _ (V0_outI (l := crw4) (vs := [86, 87, 88, 15, 12]) (by decide) v hv 0), f4 _ _ (V1_out (vs := [86, 87, 88, 15, 12]) (by decide) _ hv _), f1 _ _ (V1_out (vs := [86, 87, 88, 15, 12]) (by decide) _ hv _)]
              have row5 : CRAt I5 k (t', w.2.1, p', s', w.2.2.2.2.1, w.2.2.2.2.2) := ⟨q1, q2, q3, q4, by rw [keep _ (by decide)]; exact w5, by rw [keep _ (by decide)]; exact w6⟩
              have ch5 : I5 88 0 k = zI (ch : Int) := by rw [keep _ (by decide)]; exact hchs
              have P5 : PathAt I5 R r rn := hP.c C5
              have T5 : TKAt I5 nW W := hT.fr C5.fr rfl rfl
              have B5 : BoardAt I5 bo e.1 := hB.fr C5.fr (VFC_out (by decide))
              -- one of the two ways on
              have step : ∀ (u : Int) (st1 : Int × Nat) (I6 : II) (x5' : Int32) (Q' Q9 : QQ), u = 0 ∨ u = 1 → 0 ≤ e.1.2.2.2.1 - u → x5' = zI u → FrWO k I I6 → CRAt I6 k (t', w.2.1, p', s', w.2.2.2.2.1, w.2.2.2.2.2) → I6 88 0 k = zI (ch : Int) → I6 15 0 0 = zI st1.1 → w.2.2.2.2.2 + u < st1.1 → st1.1 ≤ 1000000 → I6 12 0 0 = zI (st1.2 : Int) →
                  (∀ I7 : II, FrWO (k + 1) I6 I7 → I7 15 0 0 = zI (wearF rn nW W (f' + 1) (leaveR rn W w e.1 t' p' s' u) (ch + (if u = 1 then 2 ^ w.2.1.toNat else 0)) st1).1 → I7 12 0 0 = zI ((wearF rn nW W (f' + 1) (leaveR rn W w e.1 t' p' s' u) (ch + (if u = 1 then 2 ^ w.2.1.toNat else 0)) st1).2 : Int) → Q' none I7 Lg R (GM gc)) →
                  (∀ I7 : II, am_Sp Γ (d + f' + 3) 0 0 mX2_wearOn [vR 2 0, vR 7 r, vR 10 0, vI (x3 + zI 1)] I7 Lg R (GM gc) Q' → Q9 none I7 Lg R (GM gc)) →
                  am_Sp Γ (d + f' + 3) 0 0 mX2_leave [vR 2 0, vR 7 r, vR 1 bo, vR 10 0, vI x3, vI x5'] I6 Lg R (GM gc) Q9 := by
                intro u st1 I6 x5' Q' Q9 hu hu0 hx5' f6 row6 ch6 le6 lt6 st6 set6 hq hcont
                obtain ⟨v1, v2, v3, v4, v5⟩ := leave_ok (u := u) hrn hWi hws hkn hroll hu0 (by omega)
                rw [v4] at hkp hch
                have hTp : TKAt I6 nW W := hT.fr f6.fr (VWO_out (vs := [40]) (by decide) _ (by decide) _) (VWO_out (vs := [124]) (by decide) _ (by decide) _)
                have hPp : PathAt I6 R r rn := hP.fr f6.fr (VWO_out (by decide))
                refine s_leave (d := d + f' + 1) hrn hPp hTp hbok (hB.fr f6.fr (VWO_out (by decide))) row6 ch6 hx3 (by omega) hx5' hu hu0 ⟨by omega, by omega⟩ ⟨p1, by omega⟩ ⟨r3, r4⟩ ⟨r5, r6⟩ ⟨k0, hkn⟩ hch (fun I7 C7 row7 ch7 => ?_)
                refine hcont I7 ?_
                have hlv : leaveR rn W (t', w.2.1, p', s', w.2.2.2.2.1, w.2.2.2.2.2) e.1 t' p' s' u = leaveR rn W w e.1 t' p' s' u := rfl
                rw [hlv] at row7
                have hknv : (leaveR rn W w e.1 t' p' s' u).2.2.2.2.1 = if 0 < lvK (e.1.2.2.2.1 - u) s' ∧ t' = W w.2.2.2.2.1.toNat then w.2.2.2.2.1 + 1 else w.2.2.2.2.1 := rfl
                have hsmv : (leaveR rn W w e.1 t' p' s' u).2.2.2.2.2 = w.2.2.2.2.2 + u := rfl
                have hk1 : (leaveR rn W w e.1 t' p' s' u).2.2.2.2.1 ≤ ((k + 1 : Nat) : Int) := by
                  rw [hknv]
                  split <;> omega
                have hch7 : ch + (if u = 1 then 2 ^ w.2.1.toNat else 0) < 2 ^ plN rn (leaveR rn W w e.1 t' p' s' u).2.1 := by
                  have h2 : (2 : Nat) ^ (w.2.1.toNat + 1) ≤ 2 ^ plN rn (leaveR rn W w e.1 t' p' s' u).2.1 := Nat.pow_le_pow_right (by omega) v2
                  rw [Nat.pow_succ] at h2
                  split <;> omega
                have o7 : ∀ v ∈ [15, 12], I7 v 0 = I6 v 0 := fun v hv => C7.fr _ _ (VFC_out (vs := [15, 12]) (by decide) v hv 0)
                refine ih f' (by omega) (k + 1) _ (leaveR rn W w e.1 t' p' s' u) st1 I7 (x3 + zI 1) Q' (by omega) hx31 (hPp.c C7) (hTp.fr C7.fr rfl rfl) row7 v1 (by omega) v3 hch7 ch7 (by rw [hsmv]; omega) hk1 (by rw [o7 _ (by decide)]; exact le6) (by rw [hsmv]; exact lt6) st6 (by rw [o7 _ (by decide)]; exact set6) (fun I8 f8 l8 s8 => ?_)
                exact hq I8 (C7.wo.tr f8) l8 s8
              -- the second way
              have k166 : ∀ (st1 : Int × Nat) (I6 : II), FrWO k I I6 → CRAt I6 k (t', w.2.1, p', s', w.2.2.2.2.1, w.2.2.2.2.2) → I6 88 0 k = zI (ch : Int) → I6 15 0 0 = zI st1.1 → 0 ≤ st1.1 → st1.1 ≤ 1000000 → I6 12 0 0 = zI (st1.2 : Int) →
                  (∀ I' : II, FrWO k I I' → I' 15 0 0 = zI (if w.2.2.2.2.2 < st1.1 then wearF rn nW W (f' + 1) (leaveR rn W w e.1 t' p' s' 0) ch st1 else st1).1 → I' 12 0 0 = zI ((if w.2.2.2.2.2 < st1.1 then wearF rn nW W (f' + 1) (leaveR rn W w e.1 t' p' s' 0) ch st1 else st1).2 : Int) → Q none I' Lg R (GM gc)) →
                  am_J Γ mX2_wearOn Q (d + (f' + 1) + 3) 0 0 166 [some (vR 2 0), some (vR 7 r), some (vR 10 0), some (vI x3), some (vR 1 bo), some (vI x5), some (vI x6)] [] I6 Lg R (GM gc) := by
                intro st1 I6 f6 row6 ch6 le6 st60 st6 set6 hq
                have sm6 : (I6 87 0 k).toInt = w.2.2.2.2.2 := by rw [show I6 87 0 k = zI w.2.2.2.2.2 from row6.2.2.2.2.2, zI_toInt (by omega) (by omega)]
                have lt6 : (I6 15 0 0).toInt = st1.1 := by rw [le6, zI_toInt (by omega) (by omega)]
                refine am_goN vX2_wearOn 7 ?_
                refine And.intro ⟨by omega, by omega⟩ ?_
                rw [h3n]
                refine And.intro (fun c9 => ?_) (fun c9 => ?_)
                · rw [sm6, lt6] at c9
                  rw [if_neg (by omega)] at hq
                  refine am_goN vX2_wearOn 1 ?_
                  exact hq I6 f6 le6 set6
                · rw [sm6, lt6] at c9
                  rw [if_pos c9] at hq
                  refine am_goN vX2_wearOn 7 ?_
                  refine step 0 st1 I6 (zI 0) ?q _ (Or.inl rfl) (by omega) rfl f6 row6 ch6 le6 (by omega) st6 set6 (fun I7 f7 l7 s7 => ?hq) (fun I7 hh => ?hc)
                  case hc =>
                    refine am_goN vX2_wearOn 7 ?_
                    exact hh
                  case hq =>
                    refine am_goN vX2_wearOn 1 ?_
                    exact hq I7 (f6.tr f7.dn) l7 s7
              have dr5 : (I5 9 bo 0).toInt = e.1.2.2.2.1 := by rw [B5.2.2.2.1, zI_toInt (by omega) (by omega)]
              have sm5 : (I5 87 0 k + zI 1).toInt = w.2.2.2.2.2 + 1 := by rw [show I5 87 0 k = zI w.2.2.2.2.2 from row5.2.2.2.2.2, zI_add, zI_toInt (by omega) (by omega)]
              have le5 : I5 15 0 0 = zI st.1 := by rw [keep _ (by decide)]; exact hle
              have se5 : I5 12 0 0 = zI (st.2 : Int) := by rw [keep _ (by decide)]; exact hset
              have lt5 : (I5 15 0 0).toInt = st.1 := by rw [le5, zI_toInt (by omega) (by omega)]
              have F5 : FrWO k I I5 := C5.wo
              refine am_goN vX2_wearOn 3 ?_
              refine And.intro (fun c9 => ?_) (fun c9 => ?_)
              · rw [dr5] at c9
                rw [if_neg (show ¬ (0 < e.1.2.2.2.1 ∧ w.2.2.2.2.2 + 1 < st.1) from fun z => by have := z.1; omega)] at h
                exact k166 st I5 F5 row5 ch5 le5 (by omega) hst se5 h
              · rw [dr5] at c9
                refine am_goN vX2_wearOn 9 ?_
                refine And.intro ⟨by omega, by omega⟩ ?_
                rw [h3n]
                refine And.intro (fun c10 => ?_) (fun c10 => ?_)
                · rw [sm5, lt5] at c10
                  rw [if_neg (show ¬ (0 < e.1.2.2.2.1 ∧ w.2.2.2.2.2 + 1 < st.1) from fun z => by have := z.2; omega)] at h
                  exact k166 st I5 F5 row5 ch5 le5 (by omega) hst se5 h
                · rw [sm5, lt5] at c10
                  rw [if_pos (show 0 < e.1.2.2.2.1 ∧ w.2.2.2.2.2 + 1 < st.1 from ⟨c9, c10⟩)] at h
                  have hrg := wearF_rng (rn := rn) (nW := nW) (W := W) (f := f' + 1) (w := leaveR rn W w e.1 t' p' s' 1) (ch := ch + 2 ^ w.2.1.toNat) (st := st) c10
                  have hsmv : (leaveR rn W w e.1 t' p' s' 1).2.2.2.2.2 = w.2.2.2.2.2 + 1 := rfl
                  refine am_goN vX2_wearOn 7 ?_
                  refine step 1 st I5 (zI 1) ?q1 _ (Or.inr rfl) (by omega) rfl F5 row5 ch5 le5 c10 hst se5 (fun I7 f7 l7 s7 => ?hq) (fun I7 hh => ?hc)
                  case hc =>
                    refine am_goN vX2_wearOn 7 ?_
                    exact hh
                  case hq =>
                    rw [if_pos rfl] at l7 s7
                    refine k166 _ I7 (F5.tr f7.dn) (f7.row (by omega) row5) ?_ l7 (by omega) (by omega) s7 h
                    rw [f7 _ _ _ (Or.inr (by omega)) (Or.inl rfl) (by decide) (by decide)]
                    exact ch5
            · rw [h6] at c6
              have c6 : t' = (zI (-1)).toInt := c6
              rw [zI_toInt (by omega) (by omega)] at c6
              omega
        · rw [h31, zI_toInt (by omega) (by omega)] at c2
          omega
      · have hF : wearF rn nW W (f + 1) w ch st = st := by
          unfold wearF
          rw [if_neg (by omega)]
          unfold wroll
          rw [hno]
        rw [hF] at h
        refine am_goN vX2_wearOn 3 ?_
        exact h I FrWO.rf hle hset
    · rw [kt, tct] at c
      refine am_goN vX2_wearOn 6 ?_
      refine And.intro ⟨by omega, by omega⟩ ?_
      rw [h3n]
      refine fun y1 ey1 I1 e1 => ?_
      refine am_goN vX2_wearOn 20 ?_
      refine And.intro ⟨by omega, by omega⟩ ?_
      rw [h3n]
      refine fun y2 ey2 I2 e2 => ?_
      have hF : wearF rn nW W (f + 1) w ch st = (w.2.2.2.2.2, ch) := by
        unfold wearF
        rw [if_pos c]
      rw [hF] at h
      refine h I2 (fun v i j _ _ q1 q2 => ?_) ?_ ?_
      · rw [e2, up3_v _ q2, e1, up3_v _ q1]
      · rw [e2, up3_v _ (by decide), e1, up3_s, ey1, w6]
      · rw [e2, up3_s, ey2, e1, up3_v _ (by decide), hchs]
  · rw [h3, zI_toInt (by omega) (by omega)] at c
    omega
