/-! knock, event and sound of the law: what is caught. -/
theorem xok_at {w : Cond} {i : Nat} (h : [w] = [i].filterMap (fun i => lw_tbl[i]?)) (hg : [w].all goodWord = true) : w ∈ am_BIG := tx_one h hg
theorem xok_knock : am_Xok mL_knock mT_knock 7 := ⟨xok_at (i := 1230) (by decide +kernel) (by decide +kernel), xok_at (i := 1227) (by decide +kernel) (by decide +kernel), xok_at (i := 1228) (by decide +kernel) (by decide +kernel), xok_at (i := 1229) (by decide +kernel) (by decide +kernel), xok_at (i := 102) (by decide +kernel) (by decide +kernel), rfl, by decide, by decide, by decide, by decide⟩
theorem xok_event : am_Xok mL_event mT_event 15 := ⟨xok_at (i := 1306) (by decide +kernel) (by decide +kernel), xok_at (i := 1303) (by decide +kernel) (by decide +kernel), xok_at (i := 1304) (by decide +kernel) (by decide +kernel), xok_at (i := 1305) (by decide +kernel) (by decide +kernel), xok_at (i := 102) (by decide +kernel) (by decide +kernel), rfl, by decide, by decide, by decide, by decide⟩
theorem xok_sound : am_Xok mL_sound mT_sound 18 := ⟨xok_at (i := 1319) (by decide +kernel) (by decide +kernel), xok_at (i := 1316) (by decide +kernel) (by decide +kernel), xok_at (i := 1317) (by decide +kernel) (by decide +kernel), xok_at (i := 1318) (by decide +kernel) (by decide +kernel), xok_at (i := 102) (by decide +kernel) (by decide +kernel), rfl, by decide, by decide, by decide, by decide⟩
theorem xok_link : Cond.classLink "StormLoftLaw" 13 XNS ∈ am_BIG := xok_at (i := 1226) (by decide +kernel) (by decide +kernel)
set_option maxRecDepth 100000 in
theorem s_lknock {Γ : AMG} {Q : QQ} {d : Nat} {x1 x2 : Int32} {I : II} {Lg : LJ} {R : RR} {gc : Nat → Nat} {ks : KS} (hT : am_TK Γ) (hl : ks.length ≤ 12) (hn : I 19 0 0 = zI ks.length) (hK : KAt I 102 103 104 0 ks)
    (hno : ¬ (0 ≤ x1.toInt ∧ x1.toInt < ks.length ∧ 0 ≤ x2.toInt ∧ x2.toInt ≤ 2) → Q (some (vI (zI 1))) I Lg R (GM gc))
    (hy : 0 ≤ x1.toInt → x1.toInt < ks.length → 0 ≤ x2.toInt → x2.toInt ≤ 2 → Q (some (vI (zI 0))) I (up3 Lg 2 0 0 (zI (ksA ks x1.toInt x2.toInt)).toInt64) R (GM gc)) :
    am_SpW Γ (d + 7) 1 6 mL_knock xhh [vR 11 0, vI x1, vI x2, vR 116 0] I Lg R (GM gc) Q := by
  refine am_SpW.of (d := d + 6) (M2 := mT_knock) (idx := 7) rfl rfl rfl rfl (by decide +kernel) (by decide +kernel) (by decide +kernel) (by decide +kernel) (by decide +kernel) (by decide +kernel) (by decide +kernel) rfl xok_knock rfl rfl xok_link hT (by decide) (Nat.lt_or_ge _ _).symm ?_
  refine s_xknock hT hl hn hK (fun c => ?_) (fun c1 c2 c3 c4 => ?_)
  · refine am_goN vL_knock 20 ?_
    exact hno c
  · refine am_goN vL_knock 20 ?_
    refine And.intro ⟨by decide, by decide⟩ ?_
    exact hy c1 c2 c3 c4
set_option maxRecDepth 100000 in
theorem s_levent {Γ : AMG} {Q : QQ} {d : Nat} {x1 x2 : Int32} {I : II} {Lg : LJ} {R : RR} {gc : Nat → Nat} {l : List MC} {S : PS} (hT : am_TK Γ) (hl : MCsok l) (hm : CMAt I l) (hp : PlanAt I 9 S) (hes : EVsok l S.1)
    (hno : ¬ (0 ≤ x1.toInt ∧ x1.toInt < S.1.length ∧ 0 ≤ x2.toInt ∧ x2.toInt ≤ 4) → Q (some (vI (zI 1))) I Lg R (GM gc))
    (hy : ∀ (k : Nat) (e : EV), x1 = zI k → S.1[k]? = some e → 0 ≤ x2.toInt → x2.toInt ≤ 4 → Q (some (vI (zI 0))) I (up3 Lg 2 0 0 (zI (evA l e x2.toInt)).toInt64) R (GM gc)) :
    am_SpW Γ (d + 7) 1 6 mL_event xhh [vR 11 0, vI x1, vI x2, vR 116 0] I Lg R (GM gc) Q := by
  refine am_SpW.of (d := d + 6) (M2 := mT_event) (idx := 15) rfl rfl rfl rfl (by decide +kernel) (by decide +kernel) (by decide +kernel) (by decide +kernel) (by decide +kernel) (by decide +kernel) (by decide +kernel) rfl xok_event rfl rfl xok_link hT (by decide) (Nat.lt_or_ge _ _).symm ?_
  refine s_xevent hT hl hm hp hes (fun c => ?_) (fun k e c1 c2 c3 c4 => ?_)
  · refine am_goN vL_event 20 ?_
    exact hno c
  · refine am_goN vL_event 20 ?_
    refine And.intro ⟨by decide, by decide⟩ ?_
    exact hy k e c1 c2 c3 c4
set_option maxRecDepth 100000 in
theorem s_lsound {Γ : AMG} {Q : QQ} {d : Nat} {x1 x2 : Int32} {I : II} {Lg : LJ} {R : RR} {gc : Nat → Nat} {ks : KS} (hT : am_TK Γ) (hl : ks.length ≤ 300) (hn : I 24 0 0 = zI ks.length) (hK : KAt I 109 110 111 0 ks)
    (hno : ¬ (0 ≤ x1.toInt ∧ x1.toInt < ks.length ∧ 0 ≤ x2.toInt ∧ x2.toInt ≤ 2) → Q (some (vI (zI 1))) I Lg R (GM gc))
    (hy : 0 ≤ x1.toInt → x1.toInt < ks.length → 0 ≤ x2.toInt → x2.toInt ≤ 2 → Q (some (vI (zI 0))) I (up3 Lg 2 0 0 (zI (ksA ks x1.toInt x2.toInt)).toInt64) R (GM gc)) :
    am_SpW Γ (d + 7) 1 6 mL_sound xhh [vR 11 0, vI x1, vI x2, vR 116 0] I Lg R (GM gc) Q := by
  refine am_SpW.of (d := d + 6) (M2 := mT_sound) (idx := 18) rfl rfl rfl rfl (by decide +kernel) (by decide +kernel) (by decide +kernel) (by decide +kernel) (by decide +kernel) (by decide +kernel) (by decide +kernel) rfl xok_sound rfl rfl xok_link hT (by decide) (Nat.lt_or_ge _ _).symm ?_
  refine s_xsound hT hl hn hK (fun c => ?_) (fun c1 c2 c3 c4 => ?_)
  · refine am_goN vL_sound 20 ?_
    exact hno c
  · refine am_goN vL_sound 20 ?_
    refine And.intro ⟨by decide, by decide⟩ ?_
    exact hy c1 c2 c3 c4
