/-! A token is compared with a text. -/
def am_ST (Γ : AMG) : Prop := ∀ U, Γ.KX U → ∀ q, kwOf q ≠ [] → ∃ v, sxP Γ.HH (Γ.SA q) v (kwOf q).length (fun j => zI ((kwOf q).getD j 0)) U Γ.HH
theorem kw_len {q : Nat} : (kwOf q).length ≤ 8 := by
  unfold kwOf
  split <;> decide
theorem kw_chr {q : Nat} : ∀ x ∈ kwOf q, 97 ≤ x ∧ x ≤ 122 := by
  unfold kwOf
  split <;> decide
theorem kw_get {q k : Nat} (hk : k < (kwOf q).length) : 97 ≤ (kwOf q).getD k 0 ∧ (kwOf q).getD k 0 ≤ 122 := by
  simp only [List.getD, List.getElem?_eq_getElem hk, Option.getD_some]
  exact kw_chr _ (List.getElem_mem hk)
theorem jg_len : GoodIn am_BIG (wsV "StormLoft$Tape" 67 RS jy_len jw_len) := am_BIG_good (tx_atIn _ [782, 783, 784, 121, 785, 1938, 786, 787, 788, 121, 789, 790, 1939] (by decide +kernel) (by decide +kernel))
theorem jg_ch : GoodIn am_BIG (wsV "StormLoft$Tape" 73 RS jy_ch jw_ch) := am_BIG_good (tx_atIn _ [792, 793, 794, 121, 795, 1938, 796, 797, 798, 121, 799, 790, 1939, 800, 801, 122, 802, 803, 804, 121, 805, 806, 808, 809, 123, 810] (by decide +kernel) (by decide +kernel))
section AMR
variable {Γ : AMG} {Q : QQ} {d k n pc q : Nat} {L : LL} {rest : List AV} {I : II} {Lg : LJ} {R : RR} {G : GG}
theorem ar_len (hST : am_ST Γ) (hq : kwOf q ≠ []) (hd : decode mX10_isWord.2.2.1 pc = .ok (.invokevirtual 67, 3)) (hcat : am_cats rest ≤ 8) (h : am_J Γ mX10_isWord Q (d + 4) k n (pc + 3) L (vI (zI ((kwOf q).length : Nat)) :: rest) I Lg R G) : am_J Γ mX10_isWord Q (d + 4) k n pc L (vR am_cStr q :: rest) I Lg R G := by
  intro ρ p e Rm s m args below meth c H locs cells slots Z C h1 h2 h3 h4 hW hl hoL hoS ret ls hL
  obtain ⟨v, hP⟩ := hST s C.2.2.2.2.2.2.2.2.1.2 q hq
  have hPH : sxP Γ.HH (Γ.SA q) v (kwOf q).length (fun j => zI ((kwOf q).getD j 0)) s H := hP.kept (fun a ha _ => hW.2.2.2.2.2.2.1 a ha)
  have hq2 : ρ am_cStr q = Γ.SA q := hW.2.2.2.1 q
  have hts := C.2.2.2.2.2.2.1
  have h8 := kw_len (q := q)
  have e0 : (vR am_cStr q :: rest).map (am_con ρ) = .ref (Γ.SA q) :: rest.map (am_con ρ) := by rw [List.map_cons, ← hq2]; rfl
  rw [e0]
  obtain ⟨-, -, -, -, ⟨cq, o1, o2, o3, -⟩, -⟩ := id hPH
  have h48 : am_LOC * (d + 4) = 48 * d + 192 := by show 48 * (d + 4) = _; omega
  refine sx_call (r := some (.int (nI (kwOf q).length))) (va_runV (C := RS) (As := []) (rest := rest.map (am_con ρ)) (g := F0 m pc ls (.ref (Γ.SA q) :: rest.map (am_con ρ))) ⟨C.1, C.2.1, C.2.2.1, C.2.2.2.2.2.1, hts⟩ (jx_len (by omega)) (cwV (ws' := .fieldLink RS 9 RS "value" "[B" :: wsV RS 335 RS jy_coder jw_coder) 0 hts jg_len rfl rfl rfl ⟨rfl, by decide, by decide, by decide +kernel⟩ ⟨by show 1 + 1 ≤ _; omega, by show 8 + (1 + 11) + 20 ≤ _; omega⟩) ⟨sxPc.blind, ⟨cq, o1, o2, o3⟩, fun U hU hWm => ⟨rfl, by rw [hU]; exact sxP.moved hWm.alike hPH⟩⟩ rfl rfl (hL.1.trans hoL.1) rfl (lv_room (by rw [am_cats_con]; exact hcat)) hd ⟨by omega, by omega⟩) ?_
  have := h ρ p e Rm s m args below meth c H locs cells slots Z C h1 h2 h3 h4 hW hl hoL (am_okS.i (fun w hw => hoS w (List.mem_cons_of_mem _ hw))) ret ls hL
  rw [List.map_cons, show am_con ρ (vI (zI ((kwOf q).length : Nat))) = .int (nI (kwOf q).length) from congrArg Value.int (zI_nI _)] at this
  exact this
theorem ar_chr {x : Int32} {j : Nat} (hST : am_ST Γ) (hq : kwOf q ≠ []) (hx : x = zI j) (hj : j < (kwOf q).length) (hd : decode mX10_isWord.2.2.1 pc = .ok (.invokevirtual 73, 3)) (hcat : am_cats rest ≤ 8) (h : am_J Γ mX10_isWord Q (d + 4) k n (pc + 3) L (vI (zI ((kwOf q).getD j 0)) :: rest) I Lg R G) : am_J Γ mX10_isWord Q (d + 4) k n pc L (vI x :: vR am_cStr q :: rest) I Lg R G := by
  intro ρ p e Rm s m args below meth c H locs cells slots Z C h1 h2 h3 h4 hW hl hoL hoS ret ls hL
  obtain ⟨v, hP⟩ := hST s C.2.2.2.2.2.2.2.2.1.2 q hq
  have hPH : sxP Γ.HH (Γ.SA q) v (kwOf q).length (fun j => zI ((kwOf q).getD j 0)) s H := hP.kept (fun a ha _ => hW.2.2.2.2.2.2.1 a ha)
  have hq2 : ρ am_cStr q = Γ.SA q := hW.2.2.2.1 q
  have hts := C.2.2.2.2.2.2.1
  have h8 := kw_len (q := q)
  have hc9 := kw_get hj
  have hxt : x.toInt = j := by rw [hx, zI_toInt (by omega) (by omega)]
  have e0 : (vI x :: vR am_cStr q :: rest).map (am_con ρ) = .int x :: .ref (Γ.SA q) :: rest.map (am_con ρ) := by rw [List.map_cons, List.map_cons, ← hq2]; rfl
  rw [e0]
  obtain ⟨-, -, -, -, ⟨cq, o1, o2, o3, -⟩, -⟩ := id hPH
  have h48 : am_LOC * (d + 4) = 48 * d + 192 := by show 48 * (d + 4) = _; omega
  have hfr : 0 ≤ (zI ((kwOf q).getD j 0)).toInt ∧ (zI ((kwOf q).getD j 0)).toInt ≤ 255 := by rw [zI_toInt (by omega) (by omega)]; omega
  refine sx_call (r := some (.int (zI ((kwOf q).getD j 0)))) (va_runV (C := RS) (As := [.int x]) (rest := rest.map (am_con ρ)) (g := F0 m pc ls (.int x :: .ref (Γ.SA q) :: rest.map (am_con ρ))) ⟨C.1, C.2.1, C.2.2.1, C.2.2.2.2.2.1, hts⟩ (jx_ch (f := fun j => zI ((kwOf q).getD j 0)) hxt (by omega) hj hfr) (cwV (ws' := .fieldLink RS 9 RS "value" "[B" :: (wsV RS 492 RS jy_lat jw_lat ++ va_wsS RS 495 jy_l1 jw_l1)) 1 hts jg_ch rfl rfl rfl ⟨rfl, by decide, by decide, by decide +kernel⟩ ⟨by show 3 + 1 ≤ _; omega, by show 8 + (2 + 11) + 90 ≤ _; omega⟩) ⟨sxPc.blind, ⟨cq, o1, o2, o3⟩, fun U hU hWm => ⟨rfl, by rw [hU]; exact sxP.moved hWm.alike hPH⟩⟩ rfl rfl (hL.1.trans hoL.1) rfl (lv_room (by rw [am_cats_con]; exact hcat)) hd ⟨by omega, by omega⟩) ?_
  exact h ρ p e Rm s m args below meth c H locs cells slots Z C h1 h2 h3 h4 hW hl hoL (am_okS.i (fun w hw => hoS w (List.mem_cons_of_mem _ (List.mem_cons_of_mem _ hw)))) ret ls hL
end AMR
theorem dXw_18 : decode mX10_isWord.2.2.1 18 = .ok (.invokevirtual 67, 3) := by decide +kernel
theorem dXw_30 : decode mX10_isWord.2.2.1 30 = .ok (.invokevirtual 67, 3) := by decide +kernel
theorem dXw_48 : decode mX10_isWord.2.2.1 48 = .ok (.invokevirtual 73, 3) := by decide +kernel
set_option maxRecDepth 100000 in
theorem isWord_loop {Γ : AMG} {Q : QQ} {d q : Nat} {I : II} {Lg : LJ} {R : RR} {gc : Nat → Nat} {sz : Nat} {bs : Nat → Int} {t : TK} (hST : am_ST Γ) (hq : kwOf q ≠ []) (hb : BSsok sz bs) (ht : TapeAt I sz bs) (hT : TOK sz bs t) (hc : CTk I t) (hlen : t.2.2.1 - t.2.1 = (kwOf q).length)
    (hy : twd bs t = kwOf q → Q (some (vI (zI 1))) I Lg R (GM gc)) (hn : twd bs t ≠ kwOf q → Q (some (vI (zI 0))) I Lg R (GM gc)) :
    ∀ (m k : Nat) (x2 : Int32), k + m = (kwOf q).length → x2 = zI k → (∀ i, i < k → bs (t.2.1 + i) = (kwOf q).getD i 0) → am_J Γ mX10_isWord Q (d + 5) 0 0 28 [some (vR 10 0), some (vR am_cStr q), some (vI x2)] [] I Lg R (GM gc) := by
  have h8 := kw_len (q := q)
  have hok := hT.ok hb
  have hsz := hb.1
  have htw : twd bs t = (List.range (kwOf q).length).map (fun i => bs (t.2.1 + i)) := by
    unfold twd wdN
    rw [hlen]
  intro m
  induction m with
  | zero =>
    intro k x2 hm hx hk
    refine am_goN vX10_isWord 2 ?_
    refine ar_len hST hq dXw_30 (by show (1 : Nat) ≤ 8; omega) ?_
    refine am_goN vX10_isWord 1 ?_
    refine And.intro (fun _ => ?_) (fun c => ?_)
    · refine am_goN vX10_isWord 3 ?_
      refine ⟨Or.inr rfl, hy ?_⟩
      rw [htw]
      refine List.ext_getElem? (fun i => ?_)
      rw [List.getElem?_map]
      by_cases z : i < (kwOf q).length
      · rw [List.getElem?_range z, List.getElem?_eq_getElem z]
        have := hk i (by omega)
        simp only [List.getD, List.getElem?_eq_getElem z, Option.getD_some] at this
        rw [Option.map_some, this]
      · rw [List.getElem?_eq_none (by rw [List.length_range]; omega), List.getElem?_eq_none (by omega)]
        rfl
    · rw [hx, zI_toInt (by omega) (by omega), zI_toInt (by omega) (by omega)] at c
      omega
  | succ m ih =>
    intro k x2 hm hx hk
    have h2 : x2.toInt = k := by rw [hx, zI_toInt (by omega) (by omega)]
    have hkc := kw_get (q := q) (k := k) (by omega)
    have hbk := hb.2 (t.2.1 + k)
    refine am_goN vX10_isWord 2 ?_
    refine ar_len hST hq dXw_30 (by show (1 : Nat) ≤ 8; omega) ?_
    refine am_goN vX10_isWord 1 ?_
    refine And.intro (fun c => ?_) (fun _ => ?_)
    · rw [h2, zI_toInt (by omega) (by omega)] at c
      omega
    refine am_goN vX10_isWord 8 ?_
    refine s_byteAt (p := ((t.2.1 + k : Nat) : Int)) hb ht ?_ (by omega) (by omega) (fun _ _ => ?_) (fun z => absurd z (by omega))
    · rw [hc.2.1, hx, zI_add]
      congr 1
    rw [Int.toNat_natCast]
    refine ar_chr hST hq hx (by omega) dXw_48 (by show (1 : Nat) ≤ 8; omega) ?_
    refine am_goN vX10_isWord 1 ?_
    refine And.intro (fun c => ?_) (fun c => ?_)
    · rw [zI_toInt (by omega) (by omega), zI_toInt (by omega) (by omega)] at c
      refine am_goN vX10_isWord 2 ?_
      refine fun y2 ey2 => ?_
      refine ih (k + 1) y2 (by omega) (by rw [ey2, hx, zI_add]; congr 1) (fun i hi => ?_)
      by_cases z : i = k
      · subst z; exact c
      · exact hk i (by omega)
    · rw [zI_toInt (by omega) (by omega), zI_toInt (by omega) (by omega)] at c
      refine am_goN vX10_isWord 3 ?_
      refine ⟨Or.inl rfl, hn (fun z => c ?_)⟩
      rw [htw] at z
      have h9 : ((List.range (kwOf q).length).map (fun i => bs (t.2.1 + i)))[k]? = (kwOf q)[k]? := by rw [z]
      rw [List.getElem?_map, List.getElem?_range (by omega), Option.map_some] at h9
      simp only [List.getD]
      rw [← h9]
      rfl
set_option maxRecDepth 100000 in
theorem SWok.of {Γ : AMG} (hST : am_ST Γ) : SWok Γ := by
  intro Q d q I Lg R gc sz bs t hq hb ht hT hc hy hn
  have h8 := kw_len (q := q)
  have hok := hT.ok hb
  have hsz := hb.1
  have hkt : (I 42 0 0).toInt = t.1 := by rw [hc.1, zI_toInt (by omega) (by omega)]
  have hdt : (I 44 0 0 - I 43 0 0).toInt = (t.2.2.1 - t.2.1 : Nat) := by rw [hc.2.2.1, hc.2.1, zI_sub, zI_toInt (by omega) (by omega)]; omega
  refine am_runN vX10_isWord 4 _ rfl rfl rfl rfl ?_
  refine And.intro (fun c => ?_) (fun c => ?_)
  · rw [hkt, zI_toInt (by omega) (by omega)] at c
    refine am_goN vX10_isWord 3 ?_
    exact ⟨Or.inl rfl, hn (fun z => by have := z.1; omega)⟩
  rw [hkt, zI_toInt (by omega) (by omega)] at c
  have t1 : t.1 = 1 := by omega
  refine am_goN vX10_isWord 6 ?_
  refine ar_len hST hq dXw_18 (by show (1 : Nat) ≤ 8; omega) ?_
  refine am_goN vX10_isWord 1 ?_
  refine And.intro (fun c2 => ?_) (fun c2 => ?_)
  · rw [hdt, zI_toInt (by omega) (by omega)] at c2
    refine am_goN vX10_isWord 2 ?_
    refine fun x2 ex2 => ?_
    exact isWord_loop hST hq hb ht hT hc (by omega) (fun z => hy ⟨t1, z⟩) (fun z => hn (fun w => z w.2)) (kwOf q).length 0 x2 (by omega) ex2 (fun i hi => absurd hi (by omega))
  · rw [hdt, zI_toInt (by omega) (by omega)] at c2
    refine am_goN vX10_isWord 3 ?_
    refine ⟨Or.inl rfl, hn (fun z => c2 ?_)⟩
    have := congrArg List.length z.2
    unfold twd at this
    rw [wdN_len] at this
    omega
