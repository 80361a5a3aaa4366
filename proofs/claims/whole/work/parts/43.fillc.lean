/-! fillings in the class. -/
/-- what is left, since the last chance, still from, fills -/
abbrev GS : Type := Int × Int × Int × Int
def gsin (G : Int) (s : GS) (e : EV) : Int := if G ≤ e.1 - s.2.2.1 then 0 else s.2.1
def gstep (l : List MC) (F G : Int) (s : GS) (e : EV) : Option GS :=
  if s.1 < e.2.2 then (if gsin G s e = -1 ∨ F - gsin G s e < e.2.2 then none else some (F - gsin G s e - e.2.2, -1, max s.2.2.1 (e.1 + etk l e), s.2.2.2 + 1))
  else some (s.1 - e.2.2, (if gsin G s e = -1 then -1 else gsin G s e + e.2.2), max s.2.2.1 (e.1 + etk l e), s.2.2.2)
def grun (l : List MC) (F G m : Int) : List EV → GS → Option GS
  | [], s => some s
  | e :: r, s => if e.2.1 = m then (match gstep l F G s e with | none => none | some s' => grun l F G m r s') else grun l F G m r s
def gans (o : Option GS) : Int := match o with | none => -2 | some s => s.2.2.2
def GSok (n : Nat) (s : GS) : Prop := 0 ≤ s.1 ∧ s.1 ≤ 99 ∧ -1 ≤ s.2.1 ∧ s.2.1 ≤ 9999 * n ∧ 0 ≤ s.2.2.1 ∧ s.2.2.1 ≤ 44000 ∧ 0 ≤ s.2.2.2 ∧ s.2.2.2 ≤ n
theorem gstep_ok {l : List MC} {F G : Int} {n : Nat} {s s' : GS} {e : EV} (hF : 0 ≤ F) (hF1 : F ≤ 99) (hs : GSok n s) (he : EVok l e) (h : gstep l F G s e = some s') : GSok (n + 1) s' := by
  obtain ⟨h1, h2, h3, h4, h5, h6, h7, h8⟩ := hs
  have htk := etk_rng he
  obtain ⟨e1, e2, e3, e4, e5, e6⟩ := he
  have hg : -1 ≤ gsin G s e ∧ gsin G s e ≤ 9999 * n := by unfold gsin; split <;> omega
  unfold gstep at h
  split at h
  · split at h
    · cases h
    · next q =>
      cases h
      refine ⟨?_, ?_, ?_, ?_, ?_, ?_, ?_, ?_⟩ <;> dsimp only <;> omega
  · cases h
    refine ⟨?_, ?_, ?_, ?_, ?_, ?_, ?_, ?_⟩ <;> dsimp only
    · omega
    · omega
    · split <;> omega
    · split <;> omega
    · omega
    · omega
    · omega
    · omega
set_option maxRecDepth 100000 in
theorem fillc_loop {Γ : AMG} {Q : QQ} {d p kb : Nat} {x2 x3 : Int32} {I : II} {Lg : LJ} {R : RR} {gc : Nat → Nat} {l : List MC} {S : PS} {mc : MC} (hl : MCsok l) (hm : CMAt I l) (hp : PlanAt I p S) (hes : EVsok l S.1) (hx2 : x2 = zI kb) (hkb : l[kb]? = some mc) (hx3 : x3 = zI mc.2.2.1) (hF0 : 0 ≤ mc.2.2.1) (hF1 : mc.2.2.1 ≤ 99) (hG0 : 0 ≤ mc.2.2.2) (hG1 : mc.2.2.2 ≤ 200) :
    ∀ (m n : Nat) (x4 x5 x6 x7 x8 : Int32) (l9 : Option AV) (s : GS), n + m = S.1.length → GSok n s → x8 = zI n → x4 = zI s.1 → x5 = zI s.2.1 → x6 = zI s.2.2.1 → x7 = zI s.2.2.2 →
      Q (some (vI (zI (gans (grun l mc.2.2.1 mc.2.2.2 kb (S.1.drop n) s))))) I Lg R (GM gc) →
      am_J Γ mX5_fillingsNeeded Q (d + 3) 0 0 21 [some (vR 5 0), some (vR 8 p), some (vI x2), some (vI x3), some (vI x4), some (vI x5), some (vI x6), some (vI x7), some (vI x8), l9] [] I Lg R (GM gc) := by
  have hel := hes.1
  have hll := hl.1
  have hkl := (List.getElem?_eq_some_iff.mp hkb).1
  have hst : (I 33 p 0).toInt = S.1.length := by rw [hp.1, zI_toInt (by omega) (by omega)]
  intro m
  induction m with
  | zero =>
    intro n x4 x5 x6 x7 x8 l9 s hn hs h8 h4 h5 h6 h7 h
    have h80 := hs.2.2.2.2.2.2.1
    rw [List.drop_eq_nil_of_le (by omega)] at h
    refine am_go vX5_fillingsNeeded 60 ?_
    refine And.intro (fun c => ?_) (fun c => ?_)
    · rw [h7]
      exact h
    · rw [h8, zI_toInt (by omega) (by omega), hst] at c
      omega
  | succ m ih =>
    intro n x4 x5 x6 x7 x8 l9 s hn hs h8 h4 h5 h6 h7 h
    obtain ⟨g1, g2, g3, g4, g5, g6, g7, g8⟩ := id hs
    have hdr : S.1.drop n = S.1[n] :: S.1.drop (n + 1) := List.drop_eq_getElem_cons (by omega)
    have he : S.1[n]? = some S.1[n] := List.getElem?_eq_getElem (by omega)
    generalize S.1[n] = e at he hdr
    rw [hdr] at h
    unfold grun at h
    have hev := hes.2 n e he
    have htk := etk_rng hev
    obtain ⟨e1, e2, e3, e4, e5, e6⟩ := id hev
    have hnx : x8 + zI 1 = zI ((n + 1 : Nat) : Int) := by rw [h8, zI_add]; congr 1
    have hmo := mof_get e3 e4
    refine am_J.er [true, true, true, true, true, true, true, true, true, false] ?_
    refine am_go vX5_fillingsNeeded (23 - 1) ?_
    refine And.intro (fun c => ?_) (fun c => ?_)
    · rw [h8, zI_toInt (by omega) (by omega), hst] at c
      omega
    refine s_machineOfE hp h8 he ?_
    have hmt : (zI e.2.1).toInt = e.2.1 := zI_toInt (by omega) (by omega)
    have hxt2 : x2.toInt = kb := by rw [hx2, zI_toInt (by omega) (by omega)]
    refine And.intro (fun c => ?_) (fun c => ?_)
    · -- this barrel
      rw [hmt, hxt2] at c
      rw [if_pos c] at h
      have hmof : mof l e.2.1 = mc := by
        rw [c, Int.toNat_natCast, hkb] at hmo
        rw [c]
        exact (Option.some.inj hmo).symm
      refine s_numberOfE hp h8 he ?_
      refine s_tickOfE hp h8 he ?_
      refine s_cm_secondOfE hl.1 hm hx2 hkb ?_
      have hgr : -1 ≤ gsin mc.2.2.2 s e ∧ gsin mc.2.2.2 s e ≤ 9999 * n := by unfold gsin; split <;> omega
      -- behind the bookkeeping
      have k128 : ∀ (y4 y5 y7 : Int32) (s' : GS), gstep l mc.2.2.1 mc.2.2.2 s e = some s' → y4 = zI s'.1 → y5 = zI s'.2.1 → s'.2.2.1 = max s.2.2.1 (e.1 + etk l e) → y7 = zI s'.2.2.2 → am_J Γ mX5_fillingsNeeded Q (d + 3) 0 0 128 [some (vR 5 0), some (vR 8 p), some (vI x2), some (vI x3), some (vI y4), some (vI y5), some (vI x6), some (vI y7), some (vI x8), some (vI (zI e.2.2))] [] I Lg R (GM gc) := by
        intro y4 y5 y7 s' hg q4 q5 q6 q7
        refine am_go vX5_fillingsNeeded 60 ?_
        refine s_tickOfE hp h8 he ?_
        refine s_cm_takes (n := e.2.2) hl.1 hm hx2 rfl hkb (hl.2 _ _ hkb) ?_
        rw [hg] at h
        refine ih (n + 1) _ _ _ _ _ _ s' (by omega) (gstep_ok hF0 hF1 hs hev hg) hnx q4 q5 ?_ q7 h
        have hte : tks mc e.2.2 = etk l e := by unfold etk; rw [hmof]
        rw [h6, hte, zI_add, am_max_z (by omega) (by omega) (by omega) (by omega), q6]
      have k71 : ∀ y5 : Int32, y5 = zI (gsin mc.2.2.2 s e) → am_J Γ mX5_fillingsNeeded Q (d + 3) 0 0 71 [some (vR 5 0), some (vR 8 p), some (vI x2), some (vI x3), some (vI x4), some (vI y5), some (vI x6), some (vI x7), some (vI x8), some (vI (zI e.2.2))] [] I Lg R (GM gc) := by
        intro y5 q5
        have hy5 : y5.toInt = gsin mc.2.2.2 s e := by rw [q5, zI_toInt (by omega) (by omega)]
        refine am_go vX5_fillingsNeeded 3 ?_
        refine And.intro (fun c2 => ?_) (fun c2 => ?_)
        · rw [h4, zI_toInt (by omega) (by omega), zI_toInt (by omega) (by omega)] at c2
          refine am_go vX5_fillingsNeeded 7 ?_
          refine And.intro (fun c3 => ?_) (fun c3 => ?_)
          · rw [hy5, zI_toInt (by omega) (by omega)] at c3
            refine k128 _ _ _ (s.1 - e.2.2, -1, max s.2.2.1 (e.1 + etk l e), s.2.2.2) ?_ (by rw [h4, zI_sub]) (by rw [q5, c3]) rfl h7
            unfold gstep
            rw [if_neg (by omega), if_pos c3]
          · rw [hy5, zI_toInt (by omega) (by omega)] at c3
            refine am_go vX5_fillingsNeeded 4 ?_
            refine k128 _ _ _ (s.1 - e.2.2, gsin mc.2.2.2 s e + e.2.2, max s.2.2.1 (e.1 + etk l e), s.2.2.2) ?_ (by rw [h4, zI_sub]) (by rw [q5, zI_add]) rfl h7
            unfold gstep
            rw [if_neg (by omega), if_neg c3]
        · rw [h4, zI_toInt (by omega) (by omega), zI_toInt (by omega) (by omega)] at c2
          refine am_go vX5_fillingsNeeded (24 - 2) ?_
          refine And.intro (fun c3 => ?_) (fun c3 => ?_)
          · rw [hy5, zI_toInt (by omega) (by omega)] at c3
            unfold gstep at h
            rw [if_pos (by omega), if_pos (Or.inl c3)] at h
            exact h
          · rw [hy5, zI_toInt (by omega) (by omega)] at c3
            refine And.intro (fun c4 => ?_) (fun c4 => ?_)
            · rw [hx3, q5, zI_sub, zI_toInt (by omega) (by omega), zI_toInt (by omega) (by omega)] at c4
              refine And.intro (fun c5 => ?_) (fun c5 => ?_)
              · refine k128 _ _ _ (mc.2.2.1 - gsin mc.2.2.2 s e - e.2.2, -1, max s.2.2.1 (e.1 + etk l e), s.2.2.2 + 1) ?_ (by rw [hx3, q5, zI_sub, zI_sub]) rfl rfl (by rw [h7, zI_add])
                unfold gstep
                rw [if_pos (by omega), if_neg (by omega)]
              · rw [zI_toInt (by omega) (by omega)] at c5
                omega
            · rw [hx3, q5, zI_sub, zI_toInt (by omega) (by omega), zI_toInt (by omega) (by omega)] at c4
              unfold gstep at h
              rw [if_pos (by omega), if_pos (Or.inr (by omega))] at h
              exact h
      refine And.intro (fun c2 => ?_) (fun c2 => ?_)
      · rw [h6, zI_sub, zI_toInt (by omega) (by omega), zI_toInt (by omega) (by omega)] at c2
        refine k71 _ ?_
        unfold gsin
        rw [h5, if_neg (by omega)]
      · rw [h6, zI_sub, zI_toInt (by omega) (by omega), zI_toInt (by omega) (by omega)] at c2
        refine am_go vX5_fillingsNeeded 2 ?_
        refine k71 _ ?_
        unfold gsin
        rw [if_pos (by omega)]
    · rw [hmt, hxt2] at c
      rw [if_neg c] at h
      exact ih (n + 1) _ _ _ _ _ _ s (by omega) ⟨g1, g2, g3, by omega, g5, g6, g7, by omega⟩ hnx h4 h5 h6 h7 h
set_option maxRecDepth 100000 in
theorem s_fillingsNeeded {Γ : AMG} {Q : QQ} {d p kb : Nat} {x2 : Int32} {I : II} {Lg : LJ} {R : RR} {gc : Nat → Nat} {l : List MC} {S : PS} {mc : MC} (hl : MCsok l) (hm : CMAt I l) (hp : PlanAt I p S) (hes : EVsok l S.1) (hx2 : x2 = zI kb) (hkb : l[kb]? = some mc) (hF0 : 0 ≤ mc.2.2.1) (hF1 : mc.2.2.1 ≤ 99) (hG0 : 0 ≤ mc.2.2.2) (hG1 : mc.2.2.2 ≤ 200)
    (h : Q (some (vI (zI (gans (grun l mc.2.2.1 mc.2.2.2 kb S.1 (mc.2.2.1, -1, 0, 0)))))) I Lg R (GM gc)) : am_Sp Γ (d + 3) 0 0 mX5_fillingsNeeded [vR 5 0, vR 8 p, vI x2] I Lg R (GM gc) Q := by
  refine am_run vX5_fillingsNeeded 60 _ rfl rfl rfl rfl ?_
  refine s_cm_firstOfE hl.1 hm hx2 hkb ?_
  exact fillc_loop hl hm hp hes hx2 hkb rfl hF0 hF1 hG0 hG1 S.1.length 0 _ _ _ _ _ _ (mc.2.2.1, -1, 0, 0) (by omega) ⟨hF0, hF1, (by decide : (-1 : Int) ≤ -1), (by decide : (-1 : Int) ≤ 9999 * ((0 : Nat) : Int)), (by decide : (0 : Int) ≤ 0), (by decide : (0 : Int) ≤ 44000), (by decide : (0 : Int) ≤ 0), (by decide : (0 : Int) ≤ ((0 : Nat) : Int))⟩ rfl rfl rfl rfl rfl h
