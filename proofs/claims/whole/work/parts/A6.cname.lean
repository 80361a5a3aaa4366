/-! The class reads: names, storms. -/
theorem dl_X9_isName_1 : decode mX9_isName.2.2.1 1 = .ok (.ldc 83, 2) := by decide +kernel
theorem dl_X9_isName_10 : decode mX9_isName.2.2.1 10 = .ok (.ldc 88, 2) := by decide +kernel
theorem dl_X9_isName_19 : decode mX9_isName.2.2.1 19 = .ok (.ldc 63, 2) := by decide +kernel
theorem dl_X9_isName_28 : decode mX9_isName.2.2.1 28 = .ok (.ldc 124, 2) := by decide +kernel
theorem dl_X9_isName_37 : decode mX9_isName.2.2.1 37 = .ok (.ldc 133, 2) := by decide +kernel
theorem dl_X9_isName_46 : decode mX9_isName.2.2.1 46 = .ok (.ldc 73, 2) := by decide +kernel
theorem dl_X9_isName_55 : decode mX9_isName.2.2.1 55 = .ok (.ldc 149, 2) := by decide +kernel
theorem dl_X9_isName_64 : decode mX9_isName.2.2.1 64 = .ok (.ldc 78, 2) := by decide +kernel
theorem dl_X9_understands_26 : decode mX9_understands.2.2.1 26 = .ok (.ldc 63, 2) := by decide +kernel
theorem dl_X9_understands_44 : decode mX9_understands.2.2.1 44 = .ok (.ldc 73, 2) := by decide +kernel
theorem dl_X9_understands_61 : decode mX9_understands.2.2.1 61 = .ok (.ldc 78, 2) := by decide +kernel
theorem dl_X9_understands_78 : decode mX9_understands.2.2.1 78 = .ok (.ldc 83, 2) := by decide +kernel
theorem dl_X9_understands_95 : decode mX9_understands.2.2.1 95 = .ok (.ldc 88, 2) := by decide +kernel
theorem dl_X9_readUse_12 : decode mX9_readUse.2.2.1 12 = .ok (.ldc 124, 2) := by decide +kernel
theorem dl_X9_readUse_46 : decode mX9_readUse.2.2.1 46 = .ok (.ldc 133, 2) := by decide +kernel
theorem dl_X9_readTimes_36 : decode mX9_readTimes.2.2.1 36 = .ok (.ldc 149, 2) := by decide +kernel
theorem dl_X9_readPlay_45 : decode mX9_readPlay.2.2.1 45 = .ok (.ldc 63, 2) := by decide +kernel
set_option maxRecDepth 100000 in
theorem s_isName {Γ : AMG} {Q : QQ} {d : Nat} {I : II} {Lg : LJ} {R : RR} {gc : Nat → Nat} {sz : Nat} {bs : Nat → Int} {t : TK} (hW : SWok Γ) (hK : KWok Γ) (hb : BSsok sz bs) (ht : TapeAt I sz bs) (hT : TOK sz bs t) (hc : CTk I t)
    (hy : isNm bs t → Q (some (vI (zI 1))) I Lg R (GM gc)) (hn : ¬ isNm bs t → Q (some (vI (zI 0))) I Lg R (GM gc)) : am_Sp Γ (d + 6) 0 0 mX9_isName [vR 10 0] I Lg R (GM gc) Q := by
  have hok := hT.ok hb
  have hkt : (I 42 0 0).toInt = t.1 := by rw [hc.1, zI_toInt (by omega) (by omega)]
  have k78 : ∀ x1 : Int32, ((x1 = zI 1 ∧ (isW bs t kStorm ∨ isW bs t kEnd ∨ isW bs t kAt ∨ isW bs t kUse ∨ isW bs t kWith ∨ isW bs t kTimes ∨ isW bs t kEvery ∨ isW bs t kPlay)) ∨ (x1 = zI 0 ∧ ¬ (isW bs t kStorm ∨ isW bs t kEnd ∨ isW bs t kAt ∨ isW bs t kUse ∨ isW bs t kWith ∨ isW bs t kTimes ∨ isW bs t kEvery ∨ isW bs t kPlay))) → am_J Γ mX9_isName Q (d + 6) 0 0 78 [some (vR 10 0), some (vI x1)] [] I Lg R (GM gc) := by
    intro x1 hx
    refine am_goN vX9_isName 20 ?_
    refine And.intro (fun c => ?_) (fun c => ?_)
    · rw [hkt, zI_toInt (by omega) (by omega)] at c
      exact ⟨Or.inl rfl, hn (fun z => by have := z.1; omega)⟩
    rw [hkt, zI_toInt (by omega) (by omega)] at c
    have t1 : t.1 = 1 := by omega
    refine And.intro (fun c2 => ?_) (fun c2 => ?_)
    · rcases hx with ⟨-, hx⟩ | ⟨hx, -⟩
      · refine ⟨Or.inl rfl, hn (fun z => ?_)⟩
        obtain ⟨-, z1, z2, z3, z4, z5, z6, z7, z8⟩ := z
        rcases hx with q | q | q | q | q | q | q | q
        · exact z5 q.2
        · exact z4 q.2
        · exact z1 q.2
        · exact z2 q.2
        · exact z3 q.2
        · exact z6 q.2
        · exact z7 q.2
        · exact z8 q.2
      · rw [hx, zI_toInt (by omega) (by omega)] at c2
        omega
    · rcases hx with ⟨hx, -⟩ | ⟨-, hx⟩
      · rw [hx, zI_toInt (by omega) (by omega)] at c2
        omega
      · refine ⟨Or.inr rfl, hy ⟨t1, fun q => hx ?_, fun q => hx ?_, fun q => hx ?_, fun q => hx ?_, fun q => hx ?_, fun q => hx ?_, fun q => hx ?_, fun q => hx ?_⟩⟩
        · exact Or.inr (Or.inr (Or.inl ⟨t1, q⟩))
        · exact Or.inr (Or.inr (Or.inr (Or.inl ⟨t1, q⟩)))
        · exact Or.inr (Or.inr (Or.inr (Or.inr (Or.inl ⟨t1, q⟩))))
        · exact Or.inr (Or.inl ⟨t1, q⟩)
        · exact Or.inl ⟨t1, q⟩
        · exact Or.inr (Or.inr (Or.inr (Or.inr (Or.inr (Or.inl ⟨t1, q⟩)))))
        · exact Or.inr (Or.inr (Or.inr (Or.inr (Or.inr (Or.inr (Or.inl ⟨t1, q⟩))))))
        · exact Or.inr (Or.inr (Or.inr (Or.inr (Or.inr (Or.inr (Or.inr ⟨t1, q⟩))))))
  have k72 : (isW bs t kStorm ∨ isW bs t kEnd ∨ isW bs t kAt ∨ isW bs t kUse ∨ isW bs t kWith ∨ isW bs t kTimes ∨ isW bs t kEvery ∨ isW bs t kPlay) → am_J Γ mX9_isName Q (d + 6) 0 0 72 [some (vR 10 0), none] [] I Lg R (GM gc) := by
    intro hx
    refine am_goN vX9_isName 3 ?_
    exact fun x1 ex1 => k78 x1 (Or.inl ⟨ex1, hx⟩)
  refine am_runN vX9_isName 5 _ rfl rfl rfl rfl ?_
  refine ar_ldcS (q := 7) (tx := "storm") (fun U hU => (hK U hU).2.2.2.1) dl_X9_isName_1 ?_
  refine am_goN vX9_isName 2 ?_
  refine hW _ d 7 I Lg R gc sz bs t (by decide) hb ht hT hc (fun hw => ?_) (fun nStorm => ?_)
  · refine And.intro (fun _ => k72 (Or.inl hw)) (fun c => ?_)
    rw [zI_toInt (by omega) (by omega)] at c
    omega
  refine And.intro (fun c => ?_) (fun _ => ?_)
  · rw [zI_toInt (by omega) (by omega)] at c
    omega
  refine am_goN vX9_isName 5 ?_
  refine ar_ldcS (q := 1) (tx := "end") (fun U hU => (hK U hU).2.2.2.2.1) dl_X9_isName_10 ?_
  refine am_goN vX9_isName 2 ?_
  refine hW _ d 1 I Lg R gc sz bs t (by decide) hb ht hT hc (fun hw => ?_) (fun nEnd => ?_)
  · refine And.intro (fun _ => k72 (Or.inr (Or.inl hw))) (fun c => ?_)
    rw [zI_toInt (by omega) (by omega)] at c
    omega
  refine And.intro (fun c => ?_) (fun _ => ?_)
  · rw [zI_toInt (by omega) (by omega)] at c
    omega
  refine am_goN vX9_isName 5 ?_
  refine ar_ldcS (q := 0) (tx := "at") (fun U hU => (hK U hU).1) dl_X9_isName_19 ?_
  refine am_goN vX9_isName 2 ?_
  refine hW _ d 0 I Lg R gc sz bs t (by decide) hb ht hT hc (fun hw => ?_) (fun nAt => ?_)
  · refine And.intro (fun _ => k72 (Or.inr (Or.inr (Or.inl hw)))) (fun c => ?_)
    rw [zI_toInt (by omega) (by omega)] at c
    omega
  refine And.intro (fun c => ?_) (fun _ => ?_)
  · rw [zI_toInt (by omega) (by omega)] at c
    omega
  refine am_goN vX9_isName 5 ?_
  refine ar_ldcS (q := 9) (tx := "use") (fun U hU => (hK U hU).2.2.2.2.2.1) dl_X9_isName_28 ?_
  refine am_goN vX9_isName 2 ?_
  refine hW _ d 9 I Lg R gc sz bs t (by decide) hb ht hT hc (fun hw => ?_) (fun nUse => ?_)
  · refine And.intro (fun _ => k72 (Or.inr (Or.inr (Or.inr (Or.inl hw))))) (fun c => ?_)
    rw [zI_toInt (by omega) (by omega)] at c
    omega
  refine And.intro (fun c => ?_) (fun _ => ?_)
  · rw [zI_toInt (by omega) (by omega)] at c
    omega
  refine am_goN vX9_isName 5 ?_
  refine ar_ldcS (q := 10) (tx := "with") (fun U hU => (hK U hU).2.2.2.2.2.2.1) dl_X9_isName_37 ?_
  refine am_goN vX9_isName 2 ?_
  refine hW _ d 10 I Lg R gc sz bs t (by decide) hb ht hT hc (fun hw => ?_) (fun nWith => ?_)
  · refine And.intro (fun _ => k72 (Or.inr (Or.inr (Or.inr (Or.inr (Or.inl hw)))))) (fun c => ?_)
    rw [zI_toInt (by omega) (by omega)] at c
    omega
  refine And.intro (fun c => ?_) (fun _ => ?_)
  · rw [zI_toInt (by omega) (by omega)] at c
    omega
  refine am_goN vX9_isName 5 ?_
  refine ar_ldcS (q := 8) (tx := "times") (fun U hU => (hK U hU).2.1) dl_X9_isName_46 ?_
  refine am_goN vX9_isName 2 ?_
  refine hW _ d 8 I Lg R gc sz bs t (by decide) hb ht hT hc (fun hw => ?_) (fun nTimes => ?_)
  · refine And.intro (fun _ => k72 (Or.inr (Or.inr (Or.inr (Or.inr (Or.inr (Or.inl hw))))))) (fun c => ?_)
    rw [zI_toInt (by omega) (by omega)] at c
    omega
  refine And.intro (fun c => ?_) (fun _ => ?_)
  · rw [zI_toInt (by omega) (by omega)] at c
    omega
  refine am_goN vX9_isName 5 ?_
  refine ar_ldcS (q := 2) (tx := "every") (fun U hU => (hK U hU).2.2.2.2.2.2.2) dl_X9_isName_55 ?_
  refine am_goN vX9_isName 2 ?_
  refine hW _ d 2 I Lg R gc sz bs t (by decide) hb ht hT hc (fun hw => ?_) (fun nEvery => ?_)
  · refine And.intro (fun _ => k72 (Or.inr (Or.inr (Or.inr (Or.inr (Or.inr (Or.inr (Or.inl hw)))))))) (fun c => ?_)
    rw [zI_toInt (by omega) (by omega)] at c
    omega
  refine And.intro (fun c => ?_) (fun _ => ?_)
  · rw [zI_toInt (by omega) (by omega)] at c
    omega
  refine am_goN vX9_isName 5 ?_
  refine ar_ldcS (q := 6) (tx := "play") (fun U hU => (hK U hU).2.2.1) dl_X9_isName_64 ?_
  refine am_goN vX9_isName 2 ?_
  refine hW _ d 6 I Lg R gc sz bs t (by decide) hb ht hT hc (fun hw => ?_) (fun nPlay => ?_)
  · refine And.intro (fun c => ?_) (fun _ => k72 (Or.inr (Or.inr (Or.inr (Or.inr (Or.inr (Or.inr (Or.inr hw))))))))
    rw [zI_toInt (by omega) (by omega)] at c
    omega
  refine And.intro (fun _ => ?_) (fun c => ?_)
  · refine am_goN vX9_isName 2 ?_
    refine fun x1 ex1 => k78 x1 (Or.inr ⟨ex1, ?_⟩)
    rintro (q | q | q | q | q | q | q | q)
    · exact nStorm q
    · exact nEnd q
    · exact nAt q
    · exact nUse q
    · exact nWith q
    · exact nTimes q
    · exact nEvery q
    · exact nPlay q
  · rw [zI_toInt (by omega) (by omega)] at c
    omega
/-- a told word, as bytes from there to there -/
theorem isWordAt_loop {Γ : AMG} {Q : QQ} {d a b : Nat} {x1 x2 : Int32} {I : II} {Lg : LJ} {R : RR} {gc : Nat → Nat} {sz : Nat} {bs : Nat → Int} {t : TK} (hb : BSsok sz bs) (ht : TapeAt I sz bs) (hT : TOK sz bs t) (hc : CTk I t) (hab : a ≤ b) (hbs : b ≤ sz) (hx1 : x1 = zI a) (hx2 : x2 = zI b) (hlen : t.2.2.1 - t.2.1 = b - a)
    (hy : twd bs t = wdN bs a (b - a) → Q (some (vI (zI 1))) I Lg R (GM gc)) (hn : twd bs t ≠ wdN bs a (b - a) → Q (some (vI (zI 0))) I Lg R (GM gc)) :
    ∀ (m k : Nat) (x3 : Int32), k + m = b - a → x3 = zI k → (∀ i, i < k → bs (t.2.1 + i) = bs (a + i)) → am_J Γ mX10_isWordAt Q (d + 1) 0 0 27 [some (vR 10 0), some (vI x1), some (vI x2), some (vI x3)] [] I Lg R (GM gc) := by
  have hsz := hb.1
  have hok := hT.ok hb
  have hdif : (x2 - x1).toInt = (b - a : Nat) := by rw [hx1, hx2, zI_sub, zI_toInt (by omega) (by omega)]; omega
  intro m
  induction m with
  | zero =>
    intro k x3 hm hx hk
    refine am_goN vX10_isWordAt 20 ?_
    refine And.intro (fun c => ?_) (fun c => ?_)
    · refine ⟨Or.inr rfl, hy ?_⟩
      unfold twd wdN
      rw [hlen]
      exact List.map_congr_left (fun i hi => hk i (by rw [List.mem_range] at hi; omega))
    · rw [hdif, hx, zI_toInt (by omega) (by omega)] at c
      omega
  | succ m ih =>
    intro k x3 hm hx hk
    have b1 := hb.2 (t.2.1 + k)
    have b2 := hb.2 (a + k)
    refine am_goN vX10_isWordAt 40 ?_
    refine And.intro (fun c => ?_) (fun c => ?_)
    · rw [hdif, hx, zI_toInt (by omega) (by omega)] at c
      omega
    refine s_byteAtE (k := t.2.1 + k) hb ht (by rw [hc.2.1, hx, zI_add]; congr 1) (by omega) ?_
    refine s_byteAtE (k := a + k) hb ht (by rw [hx1, hx, zI_add]; congr 1) (by omega) ?_
    refine And.intro (fun c2 => ?_) (fun c2 => ?_)
    · rw [zI_toInt (by omega) (by omega), zI_toInt (by omega) (by omega)] at c2
      refine fun y ey => ?_
      refine ih (k + 1) y (by omega) (by rw [ey, hx, zI_add]; congr 1) (fun i hi => ?_)
      by_cases q : i = k
      · subst q; exact c2
      · exact hk i (by omega)
    · rw [zI_toInt (by omega) (by omega), zI_toInt (by omega) (by omega)] at c2
      refine ⟨Or.inl rfl, hn (fun q => c2 ?_)⟩
      have := congrArg (fun l : List Int => l[k]?) q
      unfold twd wdN at this
      rw [List.getElem?_map, List.getElem?_map, List.getElem?_range (by omega), List.getElem?_range (by omega)] at this
      exact Option.some.inj this
set_option maxRecDepth 100000 in
theorem s_isWordAt {Γ : AMG} {Q : QQ} {d a b : Nat} {x1 x2 : Int32} {I : II} {Lg : LJ} {R : RR} {gc : Nat → Nat} {sz : Nat} {bs : Nat → Int} {t : TK} (hb : BSsok sz bs) (ht : TapeAt I sz bs) (hT : TOK sz bs t) (hc : CTk I t) (hab : a ≤ b) (hbs : b ≤ sz) (hx1 : x1 = zI a) (hx2 : x2 = zI b)
    (hy : isW bs t (wdN bs a (b - a)) → Q (some (vI (zI 1))) I Lg R (GM gc)) (hn : ¬ isW bs t (wdN bs a (b - a)) → Q (some (vI (zI 0))) I Lg R (GM gc)) : am_Sp Γ (d + 1) 0 0 mX10_isWordAt [vR 10 0, vI x1, vI x2] I Lg R (GM gc) Q := by
  have hsz := hb.1
  have hok := hT.ok hb
  have hkt : (I 42 0 0).toInt = t.1 := by rw [hc.1, zI_toInt (by omega) (by omega)]
  have hdif : (x2 - x1).toInt = (b - a : Nat) := by rw [hx1, hx2, zI_sub, zI_toInt (by omega) (by omega)]; omega
  have hdt : (I 44 0 0 - I 43 0 0).toInt = (t.2.2.1 - t.2.1 : Nat) := by rw [hc.2.2.1, hc.2.1, zI_sub, zI_toInt (by omega) (by omega)]; omega
  refine am_runN vX10_isWordAt 40 _ rfl rfl rfl rfl ?_
  refine And.intro (fun c => ?_) (fun c => ?_)
  · rw [hkt, zI_toInt (by omega) (by omega)] at c
    exact ⟨Or.inl rfl, hn (fun z => by have := z.1; omega)⟩
  rw [hkt, zI_toInt (by omega) (by omega)] at c
  have t1 : t.1 = 1 := by omega
  refine And.intro (fun c2 => ?_) (fun c2 => ?_)
  · rw [hdif, hdt] at c2
    refine fun x3 ex3 => ?_
    exact isWordAt_loop hb ht hT hc hab hbs hx1 hx2 (by omega) (fun q => hy ⟨t1, q⟩) (fun q => hn (fun z => q z.2)) (b - a) 0 x3 (by omega) ex3 (fun i hi => absurd hi (by omega))
  · rw [hdif, hdt] at c2
    refine ⟨Or.inl rfl, hn (fun z => c2 ?_)⟩
    have := congrArg List.length z.2
    unfold twd at this
    rw [wdN_len, wdN_len] at this
    omega
set_option maxRecDepth 100000 in
theorem s_stormAt {Γ : AMG} {Q : QQ} {d : Nat} {x1 : Int32} {I : II} {Lg : LJ} {R : RR} {gc : Nat → Nat} (hy : ∀ j : Nat, j < 8 → x1 = zI j → Q (some (vR 8 (1 + j))) I Lg R (GM gc)) (hn : (x1.toInt < 0 ∨ 8 ≤ x1.toInt) → Q (some vN) I Lg R (GM gc)) : am_Sp Γ d 0 0 mX9_stormAt [vR 9 0, vI x1] I Lg R (GM gc) Q := by
  refine am_run vX9_stormAt 40 _ rfl rfl rfl rfl ?_
  refine And.intro (fun c => ?_) (fun c => ?_)
  · exact hn (Or.inl c)
  refine And.intro (fun c2 => ?_) (fun c2 => ?_)
  · rw [zI_toInt (by omega) (by omega)] at c2
    exact hn (Or.inr c2)
  · rw [zI_toInt (by omega) (by omega)] at c2
    refine And.intro ⟨c, by omega⟩ ?_
    exact hy x1.toInt.toNat (by omega) (by rw [show ((x1.toInt.toNat : Nat) : Int) = x1.toInt by omega, zI_self])
/-- where a name stands on the tape -/
def NmAt (I : II) (sz : Nat) (bs : Nat → Int) (j : Nat) (w : List Int) : Prop := ∃ a b : Nat, a ≤ b ∧ b ≤ sz ∧ I 118 0 j = zI a ∧ I 119 0 j = zI b ∧ wdN bs a (b - a) = w
theorem findStorm_loop {Γ : AMG} {Q : QQ} {d : Nat} {I : II} {Lg : LJ} {R : RR} {gc : Nat → Nat} {sz : Nat} {bs : Nat → Int} {t : TK} {ss : List (List Int × LST)} (hb : BSsok sz bs) (ht : TapeAt I sz bs) (hT : TOK sz bs t) (hc : CTk I t) (h8 : ss.length ≤ 8) (hn : I 35 0 0 = zI ss.length) (hN : ∀ (j : Nat) (s : List Int × LST), ss[j]? = some s → NmAt I sz bs j s.1)
    (hy : ∀ (j : Nat) (s : List Int × LST), ss[j]? = some s → isW bs t s.1 → (∀ (i : Nat) (x : List Int × LST), i < j → ss[i]? = some x → ¬ isW bs t x.1) → Q (some (vI (zI j))) I Lg R (GM gc)) (hno : (∀ (i : Nat) (x : List Int × LST), ss[i]? = some x → ¬ isW bs t x.1) → Q (some (vI (zI (-1)))) I Lg R (GM gc)) :
    ∀ (m k : Nat) (x2 : Int32), k + m = ss.length → x2 = zI k → (∀ (i : Nat) (x : List Int × LST), i < k → ss[i]? = some x → ¬ isW bs t x.1) → am_J Γ mX9_findStorm Q (d + 2) 0 0 2 [some (vR 9 0), some (vR 10 0), some (vI x2)] [] I Lg R (GM gc) := by
  have hct : (I 35 0 0).toInt = ss.length := by rw [hn, zI_toInt (by omega) (by omega)]
  intro m
  induction m with
  | zero =>
    intro k x2 hm hx hk
    refine am_goN vX9_findStorm 40 ?_
    refine And.intro (fun c => ?_) (fun c => ?_)
    · refine hno (fun i x hi => hk i x ?_ hi)
      have := (List.getElem?_eq_some_iff.mp hi).1
      omega
    · rw [hct, hx, zI_toInt (by omega) (by omega)] at c
      omega
  | succ m ih =>
    intro k x2 hm hx hk
    have hxt : x2.toInt = k := by rw [hx, zI_toInt (by omega) (by omega)]
    have hxn : x2.toInt.toNat = k := by rw [hxt]; omega
    have he : ss[k]? = some ss[k] := List.getElem?_eq_getElem (by omega)
    generalize ss[k] = s at he
    obtain ⟨a, b, g1, g2, g3, g4, g5⟩ := hN k s he
    refine am_goN vX9_findStorm 40 ?_
    refine And.intro (fun c => ?_) (fun c => ?_)
    · rw [hct, hxt] at c
      omega
    refine And.intro (fun c => ?_) (fun c => ?_)
    · rw [hxt, zI_toInt (by omega) (by omega)] at c
      omega
    refine And.intro ⟨by omega, by omega⟩ ?_
    refine And.intro ⟨by omega, by omega⟩ ?_
    rw [hxn, g3, g4]
    refine s_isWordAt hb ht hT hc g1 g2 rfl rfl (fun hw => ?_) (fun hw => ?_)
    · rw [g5] at hw
      refine And.intro (fun c => ?_) (fun _ => ?_)
      · rw [zI_toInt (by omega) (by omega)] at c
        omega
      · have := hy k s he hw hk
        rw [← hx] at this
        exact this
    · rw [g5] at hw
      refine And.intro (fun _ => ?_) (fun c => ?_)
      · refine fun y ey => ?_
        refine ih (k + 1) y (by omega) (by rw [ey, hx, zI_add]; congr 1) (fun i x hi hix => ?_)
        by_cases q : i = k
        · subst q
          rw [he] at hix
          cases hix
          exact hw
        · exact hk i x (by omega) hix
      · rw [zI_toInt (by omega) (by omega)] at c
        omega
set_option maxRecDepth 100000 in
theorem s_findStorm {Γ : AMG} {Q : QQ} {d : Nat} {I : II} {Lg : LJ} {R : RR} {gc : Nat → Nat} {sz : Nat} {bs : Nat → Int} {t : TK} {ss : List (List Int × LST)} (hb : BSsok sz bs) (ht : TapeAt I sz bs) (hT : TOK sz bs t) (hc : CTk I t) (h8 : ss.length ≤ 8) (hn : I 35 0 0 = zI ss.length) (hN : ∀ (j : Nat) (s : List Int × LST), ss[j]? = some s → NmAt I sz bs j s.1)
    (hy : ∀ (j : Nat) (s : List Int × LST), ss[j]? = some s → isW bs t s.1 → (∀ (i : Nat) (x : List Int × LST), i < j → ss[i]? = some x → ¬ isW bs t x.1) → Q (some (vI (zI j))) I Lg R (GM gc)) (hno : (∀ (i : Nat) (x : List Int × LST), ss[i]? = some x → ¬ isW bs t x.1) → Q (some (vI (zI (-1)))) I Lg R (GM gc)) : am_Sp Γ (d + 2) 0 0 mX9_findStorm [vR 9 0, vR 10 0] I Lg R (GM gc) Q := by
  refine am_runN vX9_findStorm 3 _ rfl rfl rfl rfl ?_
  refine fun x2 ex2 => ?_
  exact findStorm_loop hb ht hT hc h8 hn hN hy hno ss.length 0 x2 (by omega) ex2 (fun i x hi => absurd hi (by omega))
