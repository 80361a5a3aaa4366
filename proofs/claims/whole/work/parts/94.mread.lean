/-! The reference's words and what it reads. -/
def TOK (sz : Nat) (bs : Nat → Int) (t : TK) : Prop := ∃ p : Nat, p ≤ sz ∧ t = tokA sz bs p
theorem TOK.ok {sz : Nat} {bs : Nat → Int} {t : TK} (hb : BSsok sz bs) (h : TOK sz bs t) : t.2.1 ≤ t.2.2.1 ∧ t.2.2.1 ≤ sz ∧ t.1 ≤ 4 ∧ t.2.1 ≤ 600 ∧ (t.1 = 1 → LetL (twd bs t) ∧ t.2.2.1 - t.2.1 ≤ 8) ∧ (0 ≤ t.2.2.2 ∧ t.2.2.2 ≤ 9999) ∧ (t.1 = 0 → t.2.1 = min sz 600) ∧ (t.1 ≠ 0 → t.2.1 < min sz 600) := by
  obtain ⟨p, hp, rfl⟩ := h
  obtain ⟨h1, h2, h3, h4, h5, h6, h7, h8, h9⟩ := tok_ok hb hp
  exact ⟨h1, h2, h3, h4, h5, h6, h8, h9⟩
theorem MTk.kind2 {I : II} {Lg : LJ} {sz : Nat} {bs : Nat → Int} {t : TK} (h : MTk I Lg sz bs t) (ht : t.1 ≤ 4) (hk : (I 64 0 0).toInt = 2) : t.1 = 1 := by
  obtain ⟨-, h0, h4, h3, h2, h1⟩ := h
  have hc : t.1 = 0 ∨ t.1 = 1 ∨ t.1 = 2 ∨ t.1 = 3 ∨ t.1 = 4 := by omega
  rcases hc with c | c | c | c | c
  · rw [h0 c] at hk
    split at hk
    · rw [zI_toInt (by omega) (by omega)] at hk; omega
    · rw [zI_toInt (by omega) (by omega)] at hk; omega
  · exact c
  · rw [(h2 c).1, zI_toInt (by omega) (by omega)] at hk; omega
  · rw [(h3 c).1, zI_toInt (by omega) (by omega)] at hk; omega
  · rw [h4 c, zI_toInt (by omega) (by omega)] at hk; omega
theorem zL_inj {a b : Int} (h1 : -9223372036854775808 ≤ a) (h2 : a < 9223372036854775808) (h3 : -9223372036854775808 ≤ b) (h4 : b < 9223372036854775808) (h : zL a = zL b) : a = b := by
  have := congrArg Int64.toInt h
  rwa [zL_toInt h1 h2, zL_toInt h3 h4] at this
theorem hlL_rng {L : List Int} (h : LetL L) (hl : L.length ≤ 8) : 0 ≤ hlL L ∧ hlL L < 282429536481 := by
  refine ⟨(hlL_pos h).1, Int.lt_of_lt_of_le (hlL_lt h) ?_⟩
  have hc : L.length = 0 ∨ L.length = 1 ∨ L.length = 2 ∨ L.length = 3 ∨ L.length = 4 ∨ L.length = 5 ∨ L.length = 6 ∨ L.length = 7 ∨ L.length = 8 := by omega
  rcases hc with q | q | q | q | q | q | q | q | q <;> rw [q] <;> decide
theorem MTk.word {I : II} {Lg : LJ} {sz : Nat} {bs : Nat → Int} {t : TK} (hb : BSsok sz bs) (ht : TOK sz bs t) (h : MTk I Lg sz bs t) (h1 : t.1 = 1) : Lg 0 0 0 = zL (hlL (twd bs t)) ∧ LetL (twd bs t) ∧ (twd bs t).length ≤ 8 := by
  obtain ⟨k1, k2, k3, k4, k5, -⟩ := ht.ok hb
  obtain ⟨g1, g2⟩ := k5 h1
  refine ⟨?_, g1, by unfold twd; rw [wdN_len]; exact g2⟩
  rw [(h.2.2.2.2.2 h1).2.2, hwN_wd _ g2]
  rfl
theorem key_w {I : II} {Lg : LJ} {sz : Nat} {bs : Nat → Int} {t : TK} {w : List Int} (hb : BSsok sz bs) (ht : TOK sz bs t) (h : MTk I Lg sz bs t) (hw : LetL w) (hwl : w.length ≤ 8) :
    (I 64 0 0 = zI 2 → Lg 0 0 0 = zL (hlL w) → isW bs t w) ∧ (((I 64 0 0).toInt ≠ 2 ∨ Lg 0 0 0 ≠ zL (hlL w)) → ¬ isW bs t w) := by
  refine ⟨fun a b => ?_, fun a q => ?_⟩
  · have h1 := h.kind2 (ht.ok hb).2.2.1 (by rw [a, zI_toInt (by omega) (by omega)])
    obtain ⟨e1, e2, e3⟩ := h.word hb ht h1
    refine ⟨h1, hlL_inj _ _ e2 hw ?_⟩
    have r1 := hlL_rng e2 e3
    have r2 := hlL_rng hw hwl
    rw [e1] at b
    exact zL_inj (by omega) (by omega) (by omega) (by omega) b
  · obtain ⟨q1, q2⟩ := q
    obtain ⟨e1, e2, e3⟩ := h.word hb ht q1
    rcases a with a | a
    · rw [(h.2.2.2.2.2 q1).1, zI_toInt (by omega) (by omega)] at a
      exact a rfl
    · rw [e1, q2] at a
      exact a rfl
theorem LetL_of {L : List Int} (h : L.all (fun c => decide (97 ≤ c) && decide (c ≤ 122)) = true) : LetL L := by
  intro c hc
  have := List.all_eq_true.mp h c hc
  simpa using this
set_option maxRecDepth 100000 in
theorem s_misAt {Γ : AMG} {Q : QQ} {d : Nat} {I : II} {Lg : LJ} {R : RR} {G : GG} {sz : Nat} {bs : Nat → Int} {t : TK} (hb : BSsok sz bs) (ht : TOK sz bs t) (h : MTk I Lg sz bs t) (hy : isW bs t kAt → Q (some (vI (zI 1))) I Lg R G) (hn : ¬ isW bs t kAt → Q (some (vI (zI 0))) I Lg R G) :
    am_Sp Γ (d + 1) 0 0 mX12_isAt [vR 12 0] I Lg R G Q := by
  have hk := key_w (w := kAt) hb ht h (LetL_of (by decide)) (by decide)
  refine am_run vX12_isAt 40 _ rfl rfl rfl rfl ?_
  refine s_spelt (a := 97) (b := 116) (c := 0) (d := 0) (e := 0) (by omega) (by omega) (by omega) (by omega) (by omega) ?_
  rw [show spA 97 116 0 0 0 = hlL kAt by decide]
  refine s_isKey (fun q1 q2 => ?_) (fun q => ?_)
  · exact ⟨Or.inr rfl, hy (hk.1 q1 q2)⟩
  · exact ⟨Or.inl rfl, hn (hk.2 q)⟩
set_option maxRecDepth 100000 in
theorem s_misUse {Γ : AMG} {Q : QQ} {d : Nat} {I : II} {Lg : LJ} {R : RR} {G : GG} {sz : Nat} {bs : Nat → Int} {t : TK} (hb : BSsok sz bs) (ht : TOK sz bs t) (h : MTk I Lg sz bs t) (hy : isW bs t kUse → Q (some (vI (zI 1))) I Lg R G) (hn : ¬ isW bs t kUse → Q (some (vI (zI 0))) I Lg R G) :
    am_Sp Γ (d + 1) 0 0 mX12_isUse [vR 12 0] I Lg R G Q := by
  have hk := key_w (w := kUse) hb ht h (LetL_of (by decide)) (by decide)
  refine am_run vX12_isUse 40 _ rfl rfl rfl rfl ?_
  refine s_spelt (a := 117) (b := 115) (c := 101) (d := 0) (e := 0) (by omega) (by omega) (by omega) (by omega) (by omega) ?_
  rw [show spA 117 115 101 0 0 = hlL kUse by decide]
  refine s_isKey (fun q1 q2 => ?_) (fun q => ?_)
  · exact ⟨Or.inr rfl, hy (hk.1 q1 q2)⟩
  · exact ⟨Or.inl rfl, hn (hk.2 q)⟩
set_option maxRecDepth 100000 in
theorem s_misWith {Γ : AMG} {Q : QQ} {d : Nat} {I : II} {Lg : LJ} {R : RR} {G : GG} {sz : Nat} {bs : Nat → Int} {t : TK} (hb : BSsok sz bs) (ht : TOK sz bs t) (h : MTk I Lg sz bs t) (hy : isW bs t kWith → Q (some (vI (zI 1))) I Lg R G) (hn : ¬ isW bs t kWith → Q (some (vI (zI 0))) I Lg R G) :
    am_Sp Γ (d + 1) 0 0 mX12_isWith [vR 12 0] I Lg R G Q := by
  have hk := key_w (w := kWith) hb ht h (LetL_of (by decide)) (by decide)
  refine am_run vX12_isWith 40 _ rfl rfl rfl rfl ?_
  refine s_spelt (a := 119) (b := 105) (c := 116) (d := 104) (e := 0) (by omega) (by omega) (by omega) (by omega) (by omega) ?_
  rw [show spA 119 105 116 104 0 = hlL kWith by decide]
  refine s_isKey (fun q1 q2 => ?_) (fun q => ?_)
  · exact ⟨Or.inr rfl, hy (hk.1 q1 q2)⟩
  · exact ⟨Or.inl rfl, hn (hk.2 q)⟩
set_option maxRecDepth 100000 in
theorem s_misEnd {Γ : AMG} {Q : QQ} {d : Nat} {I : II} {Lg : LJ} {R : RR} {G : GG} {sz : Nat} {bs : Nat → Int} {t : TK} (hb : BSsok sz bs) (ht : TOK sz bs t) (h : MTk I Lg sz bs t) (hy : isW bs t kEnd → Q (some (vI (zI 1))) I Lg R G) (hn : ¬ isW bs t kEnd → Q (some (vI (zI 0))) I Lg R G) :
    am_Sp Γ (d + 1) 0 0 mX12_isEnd [vR 12 0] I Lg R G Q := by
  have hk := key_w (w := kEnd) hb ht h (LetL_of (by decide)) (by decide)
  refine am_run vX12_isEnd 40 _ rfl rfl rfl rfl ?_
  refine s_spelt (a := 101) (b := 110) (c := 100) (d := 0) (e := 0) (by omega) (by omega) (by omega) (by omega) (by omega) ?_
  rw [show spA 101 110 100 0 0 = hlL kEnd by decide]
  refine s_isKey (fun q1 q2 => ?_) (fun q => ?_)
  · exact ⟨Or.inr rfl, hy (hk.1 q1 q2)⟩
  · exact ⟨Or.inl rfl, hn (hk.2 q)⟩
set_option maxRecDepth 100000 in
theorem s_misStorm {Γ : AMG} {Q : QQ} {d : Nat} {I : II} {Lg : LJ} {R : RR} {G : GG} {sz : Nat} {bs : Nat → Int} {t : TK} (hb : BSsok sz bs) (ht : TOK sz bs t) (h : MTk I Lg sz bs t) (hy : isW bs t kStorm → Q (some (vI (zI 1))) I Lg R G) (hn : ¬ isW bs t kStorm → Q (some (vI (zI 0))) I Lg R G) :
    am_Sp Γ (d + 1) 0 0 mX12_isStorm [vR 12 0] I Lg R G Q := by
  have hk := key_w (w := kStorm) hb ht h (LetL_of (by decide)) (by decide)
  refine am_run vX12_isStorm 40 _ rfl rfl rfl rfl ?_
  refine s_spelt (a := 115) (b := 116) (c := 111) (d := 114) (e := 109) (by omega) (by omega) (by omega) (by omega) (by omega) ?_
  rw [show spA 115 116 111 114 109 = hlL kStorm by decide]
  refine s_isKey (fun q1 q2 => ?_) (fun q => ?_)
  · exact ⟨Or.inr rfl, hy (hk.1 q1 q2)⟩
  · exact ⟨Or.inl rfl, hn (hk.2 q)⟩
set_option maxRecDepth 100000 in
theorem s_misTimes {Γ : AMG} {Q : QQ} {d : Nat} {I : II} {Lg : LJ} {R : RR} {G : GG} {sz : Nat} {bs : Nat → Int} {t : TK} (hb : BSsok sz bs) (ht : TOK sz bs t) (h : MTk I Lg sz bs t) (hy : isW bs t kTimes → Q (some (vI (zI 1))) I Lg R G) (hn : ¬ isW bs t kTimes → Q (some (vI (zI 0))) I Lg R G) :
    am_Sp Γ (d + 1) 0 0 mX12_isTimes [vR 12 0] I Lg R G Q := by
  have hk := key_w (w := kTimes) hb ht h (LetL_of (by decide)) (by decide)
  refine am_run vX12_isTimes 40 _ rfl rfl rfl rfl ?_
  refine s_spelt (a := 116) (b := 105) (c := 109) (d := 101) (e := 115) (by omega) (by omega) (by omega) (by omega) (by omega) ?_
  rw [show spA 116 105 109 101 115 = hlL kTimes by decide]
  refine s_isKey (fun q1 q2 => ?_) (fun q => ?_)
  · exact ⟨Or.inr rfl, hy (hk.1 q1 q2)⟩
  · exact ⟨Or.inl rfl, hn (hk.2 q)⟩
set_option maxRecDepth 100000 in
theorem s_misEvery {Γ : AMG} {Q : QQ} {d : Nat} {I : II} {Lg : LJ} {R : RR} {G : GG} {sz : Nat} {bs : Nat → Int} {t : TK} (hb : BSsok sz bs) (ht : TOK sz bs t) (h : MTk I Lg sz bs t) (hy : isW bs t kEvery → Q (some (vI (zI 1))) I Lg R G) (hn : ¬ isW bs t kEvery → Q (some (vI (zI 0))) I Lg R G) :
    am_Sp Γ (d + 1) 0 0 mX12_isEvery [vR 12 0] I Lg R G Q := by
  have hk := key_w (w := kEvery) hb ht h (LetL_of (by decide)) (by decide)
  refine am_run vX12_isEvery 40 _ rfl rfl rfl rfl ?_
  refine s_spelt (a := 101) (b := 118) (c := 101) (d := 114) (e := 121) (by omega) (by omega) (by omega) (by omega) (by omega) ?_
  rw [show spA 101 118 101 114 121 = hlL kEvery by decide]
  refine s_isKey (fun q1 q2 => ?_) (fun q => ?_)
  · exact ⟨Or.inr rfl, hy (hk.1 q1 q2)⟩
  · exact ⟨Or.inl rfl, hn (hk.2 q)⟩
set_option maxRecDepth 100000 in
theorem s_misPlay {Γ : AMG} {Q : QQ} {d : Nat} {I : II} {Lg : LJ} {R : RR} {G : GG} {sz : Nat} {bs : Nat → Int} {t : TK} (hb : BSsok sz bs) (ht : TOK sz bs t) (h : MTk I Lg sz bs t) (hy : isW bs t kPlay → Q (some (vI (zI 1))) I Lg R G) (hn : ¬ isW bs t kPlay → Q (some (vI (zI 0))) I Lg R G) :
    am_Sp Γ (d + 1) 0 0 mX12_isPlay [vR 12 0] I Lg R G Q := by
  have hk := key_w (w := kPlay) hb ht h (LetL_of (by decide)) (by decide)
  refine am_run vX12_isPlay 40 _ rfl rfl rfl rfl ?_
  refine s_spelt (a := 112) (b := 108) (c := 97) (d := 121) (e := 0) (by omega) (by omega) (by omega) (by omega) (by omega) ?_
  rw [show spA 112 108 97 121 0 = hlL kPlay by decide]
  refine s_isKey (fun q1 q2 => ?_) (fun q => ?_)
  · exact ⟨Or.inr rfl, hy (hk.1 q1 q2)⟩
  · exact ⟨Or.inl rfl, hn (hk.2 q)⟩
set_option maxRecDepth 100000 in
theorem s_misName {Γ : AMG} {Q : QQ} {d : Nat} {I : II} {Lg : LJ} {R : RR} {G : GG} {sz : Nat} {bs : Nat → Int} {t : TK} (hb : BSsok sz bs) (ht : TOK sz bs t) (h : MTk I Lg sz bs t) (hy : isNm bs t → Q (some (vI (zI 1))) I Lg R G) (hn : ¬ isNm bs t → Q (some (vI (zI 0))) I Lg R G) :
    am_Sp Γ (d + 2) 0 0 mX12_isName [vR 12 0] I Lg R G Q := by
  have k68 : ¬ isNm bs t → am_J Γ mX12_isName Q (d + 2) 0 0 68 [some (vR 12 0)] [] I Lg R G := by
    intro q
    refine am_go vX12_isName 2 ?_
    exact ⟨Or.inl rfl, hn q⟩
  refine am_run vX12_isName 4 _ rfl rfl rfl rfl ?_
  refine And.intro (fun c => ?_) (fun c => ?_)
  · rw [zI_toInt (by omega) (by omega)] at c
    refine k68 (fun q => ?_)
    have := (h.2.2.2.2.2 q.1).1
    rw [this, zI_toInt (by omega) (by omega)] at c
    exact c rfl
  rw [zI_toInt (by omega) (by omega)] at c
  have t1 : t.1 = 1 := h.kind2 (ht.ok hb).2.2.1 c
  refine am_go vX12_isName 3 ?_
  refine s_misAt hb ht h (fun z => ?_) (fun nAt => ?_)
  · refine And.intro (fun _ => ?_) (fun c => ?_)
    · exact k68 (fun q => q.2.1 z.2)
    · rw [zI_toInt (by omega) (by omega)] at c
      omega
  refine And.intro (fun c => ?_) (fun _ => ?_)
  · rw [zI_toInt (by omega) (by omega)] at c
    omega
  refine am_go vX12_isName 3 ?_
  refine s_misUse hb ht h (fun z => ?_) (fun nUse => ?_)
  · refine And.intro (fun _ => ?_) (fun c => ?_)
    · exact k68 (fun q => q.2.2.1 z.2)
    · rw [zI_toInt (by omega) (by omega)] at c
      omega
  refine And.intro (fun c => ?_) (fun _ => ?_)
  · rw [zI_toInt (by omega) (by omega)] at c
    omega
  refine am_go vX12_isName 3 ?_
  refine s_misWith hb ht h (fun z => ?_) (fun nWith => ?_)
  · refine And.intro (fun _ => ?_) (fun c => ?_)
    · exact k68 (fun q => q.2.2.2.1 z.2)
    · rw [zI_toInt (by omega) (by omega)] at c
      omega
  refine And.intro (fun c => ?_) (fun _ => ?_)
  · rw [zI_toInt (by omega) (by omega)] at c
    omega
  refine am_go vX12_isName 3 ?_
  refine s_misEnd hb ht h (fun z => ?_) (fun nEnd => ?_)
  · refine And.intro (fun _ => ?_) (fun c => ?_)
    · exact k68 (fun q => q.2.2.2.2.1 z.2)
    · rw [zI_toInt (by omega) (by omega)] at c
      omega
  refine And.intro (fun c => ?_) (fun _ => ?_)
  · rw [zI_toInt (by omega) (by omega)] at c
    omega
  refine am_go vX12_isName 3 ?_
  refine s_misStorm hb ht h (fun z => ?_) (fun nStorm => ?_)
  · refine And.intro (fun _ => ?_) (fun c => ?_)
    · exact k68 (fun q => q.2.2.2.2.2.1 z.2)
    · rw [zI_toInt (by omega) (by omega)] at c
      omega
  refine And.intro (fun c => ?_) (fun _ => ?_)
  · rw [zI_toInt (by omega) (by omega)] at c
    omega
  refine am_go vX12_isName 3 ?_
  refine s_misTimes hb ht h (fun z => ?_) (fun nTimes => ?_)
  · refine And.intro (fun _ => ?_) (fun c => ?_)
    · exact k68 (fun q => q.2.2.2.2.2.2.1 z.2)
    · rw [zI_toInt (by omega) (by omega)] at c
      omega
  refine And.intro (fun c => ?_) (fun _ => ?_)
  · rw [zI_toInt (by omega) (by omega)] at c
    omega
  refine am_go vX12_isName 3 ?_
  refine s_misEvery hb ht h (fun z => ?_) (fun nEvery => ?_)
  · refine And.intro (fun _ => ?_) (fun c => ?_)
    · exact k68 (fun q => q.2.2.2.2.2.2.2.1 z.2)
    · rw [zI_toInt (by omega) (by omega)] at c
      omega
  refine And.intro (fun c => ?_) (fun _ => ?_)
  · rw [zI_toInt (by omega) (by omega)] at c
    omega
  refine am_go vX12_isName 3 ?_
  refine s_misPlay hb ht h (fun z => ?_) (fun nPlay => ?_)
  · refine And.intro (fun _ => ?_) (fun c => ?_)
    · exact k68 (fun q => q.2.2.2.2.2.2.2.2 z.2)
    · rw [zI_toInt (by omega) (by omega)] at c
      omega
  refine And.intro (fun c => ?_) (fun _ => ?_)
  · rw [zI_toInt (by omega) (by omega)] at c
    omega
  refine am_go vX12_isName 40 ?_
  exact ⟨Or.inr rfl, hy ⟨t1, fun q => nAt ⟨t1, q⟩, fun q => nUse ⟨t1, q⟩, fun q => nWith ⟨t1, q⟩, fun q => nEnd ⟨t1, q⟩, fun q => nStorm ⟨t1, q⟩, fun q => nTimes ⟨t1, q⟩, fun q => nEvery ⟨t1, q⟩, fun q => nPlay ⟨t1, q⟩⟩⟩
/-! What is wrong is kept. -/
abbrev mbv9 : List Nat := [66, 67]
def MFlt (I : II) (f : FLT) : Prop := I 66 0 0 = zI f.1 ∧ I 67 0 0 = zI f.2
set_option maxRecDepth 100000 in
theorem s_bad {Γ : AMG} {Q : QQ} {d : Nat} {x1 : Int32} {k : Int} {I : II} {Lg : LJ} {R : RR} {G : GG} {sz : Nat} {bs : Nat → Int} {t : TK} (h : MTk I Lg sz bs t) (hx : x1 = zI k) (hk : k = 1 ∨ t.1 = 1 ∨ t.1 = 2)
    (hq : ∀ I' : II, FrI (V0 mbv9) I I' → MFlt I' (k, t.2.1) → Q (some (vI (zI 0))) I' Lg R G) : am_Sp Γ d 0 0 mX12_bad [vR 12 0, vI x1] I Lg R G Q := by
  have fin : ∀ (y1 : Int32) (I1 : II) (y2 : Int32) (I2 : II), y1 = zI k → I1 = up3 I 66 0 0 y1 → y2 = I1 63 0 0 → I2 = up3 I1 67 0 0 y2 → (zI 0 = zI 0 ∨ zI 0 = zI 1) ∧ Q (some (vI (zI 0))) I2 Lg R G := by
    intro y1 I1 y2 I2 ey1 e1 ey2 e2
    refine ⟨Or.inl rfl, hq I2 (by rw [e2, e1]; exact (FrI.rf.up rfl).up rfl) ⟨?_, ?_⟩⟩
    · rw [e2, up3_v _ (by decide), e1, up3_s, ey1]
    · rw [e2, up3_s, ey2, e1, up3_v _ (by decide)]; exact h.1
  refine am_runN vX12_bad 40 _ rfl rfl rfl rfl ?_
  refine And.intro (fun c => ?_) (fun c => ?_)
  · exact fun y1 ey1 I1 e1 y2 ey2 I2 e2 => fin y1 I1 y2 I2 (ey1.trans hx) e1 ey2 e2
  · rw [zI_toInt (by omega) (by omega)] at c
    have hk1 : k = 1 := by
      rcases hk with hk | hk | hk
      · exact hk
      · rw [(h.2.2.2.2.2 hk).1, zI_toInt (by omega) (by omega)] at c
        omega
      · rw [(h.2.2.2.2.1 hk).1, zI_toInt (by omega) (by omega)] at c
        omega
    exact fun y1 ey1 I1 e1 y2 ey2 I2 e2 => fin y1 I1 y2 I2 (by rw [ey1, hk1]) e1 ey2 e2
set_option maxRecDepth 100000 in
theorem s_mreadNumber {Γ : AMG} {Q : QQ} {d : Nat} {x1 x2 : Int32} {a b : Int} {I : II} {Lg : LJ} {R : RR} {G : GG} {sz : Nat} {bs : Nat → Int} {t : TK} (hb : BSsok sz bs) (ht : TOK sz bs t) (h : MTk I Lg sz bs t) (hx1 : x1 = zI a) (hx2 : x2 = zI b) (ha : -100000 ≤ a ∧ a ≤ 100000) (hbb : -100000 ≤ b ∧ b ≤ 100000)
    (hy : eNum t a b = none → I 65 0 0 = zI t.val → Q (some (vI (zI 1))) I Lg R G) (hn : ∀ f : FLT, eNum t a b = some f → ∀ I' : II, FrI (V0 mbv9) I I' → MFlt I' f → Q (some (vI (zI 0))) I' Lg R G) : am_Sp Γ (d + 1) 0 0 mX12_readNumber [vR 12 0, vI x1, vI x2] I Lg R G Q := by
  have hok := ht.ok hb
  unfold eNum at hy hn
  refine am_runN vX12_readNumber 40 _ rfl rfl rfl rfl ?_
  refine And.intro (fun c => ?_) (fun c => ?_)
  · rw [zI_toInt (by omega) (by omega)] at c
    have t2 : t.1 = 2 := by
      obtain ⟨-, h0, h4, h3, h2, h1⟩ := h
      have hc : t.1 = 0 ∨ t.1 = 1 ∨ t.1 = 2 ∨ t.1 = 3 ∨ t.1 = 4 := by omega
      rcases hc with q | q | q | q | q
      · rw [h0 q] at c
        split at c
        · rw [zI_toInt (by omega) (by omega)] at c; omega
        · rw [zI_toInt (by omega) (by omega)] at c; omega
      · rw [(h1 q).1, zI_toInt (by omega) (by omega)] at c; omega
      · exact q
      · rw [(h3 q).1, zI_toInt (by omega) (by omega)] at c; omega
      · rw [h4 q, zI_toInt (by omega) (by omega)] at c; omega
    rw [if_neg (fun z => z t2)] at hy hn
    have hv := (h.2.2.2.2.1 t2).2.2
    refine s_isIn (fun c1 c2 => ?_) (fun c1 => ?_)
    · rw [hv, hx1, zI_toInt (by omega) (by omega), zI_toInt (by omega) (by omega)] at c1
      rw [hv, hx2, zI_toInt (by omega) (by omega), zI_toInt (by omega) (by omega)] at c2
      refine And.intro (fun _ => ?_) (fun c => ?_)
      · exact ⟨Or.inr rfl, hy (by rw [if_neg (by omega)]) hv⟩
      · rw [zI_toInt (by omega) (by omega)] at c
        omega
    · rw [hv, hx1, hx2, zI_toInt (by omega) (by omega), zI_toInt (by omega) (by omega), zI_toInt (by omega) (by omega)] at c1
      refine And.intro (fun c => ?_) (fun _ => ?_)
      · rw [zI_toInt (by omega) (by omega)] at c
        omega
      refine s_bad h rfl (Or.inr (Or.inr t2)) (fun I1 f1 m1 => ?_)
      refine And.intro (fun _ => ?_) (fun c => ?_)
      · exact ⟨Or.inl rfl, hn _ (by rw [if_pos (by omega)]) I1 f1 m1⟩
      · rw [zI_toInt (by omega) (by omega)] at c
        omega
  · rw [zI_toInt (by omega) (by omega)] at c
    have t2 : t.1 ≠ 2 := fun q => by rw [(h.2.2.2.2.1 q).1, zI_toInt (by omega) (by omega)] at c; omega
    rw [if_pos t2] at hn
    refine s_bad h rfl (Or.inl rfl) (fun I1 f1 m1 => ?_)
    exact ⟨Or.inl rfl, hn _ rfl I1 f1 m1⟩
set_option maxRecDepth 100000 in
theorem s_mreadEnd {Γ : AMG} {Q : QQ} {d : Nat} {I : II} {Lg : LJ} {R : RR} {G : GG} {sz : Nat} {bs : Nat → Int} {t : TK} (hb : BSsok sz bs) (ht : TOK sz bs t) (h : MTk I Lg sz bs t)
    (hy : eSemi t = none → Q (some (vI (zI 1))) I Lg R G) (hn : ∀ f : FLT, eSemi t = some f → ∀ I' : II, FrI (V0 mbv9) I I' → MFlt I' f → Q (some (vI (zI 0))) I' Lg R G) : am_Sp Γ (d + 1) 0 0 mX12_readEnd [vR 12 0] I Lg R G Q := by
  have hok := ht.ok hb
  unfold eSemi at hy hn
  refine am_runN vX12_readEnd 40 _ rfl rfl rfl rfl ?_
  refine And.intro (fun c => ?_) (fun c => ?_)
  · rw [zI_toInt (by omega) (by omega)] at c
    have t3 : t.1 = 3 := by
      obtain ⟨-, h0, h4, h3, h2, h1⟩ := h
      have hc : t.1 = 0 ∨ t.1 = 1 ∨ t.1 = 2 ∨ t.1 = 3 ∨ t.1 = 4 := by omega
      rcases hc with q | q | q | q | q
      · rw [h0 q] at c
        split at c
        · rw [zI_toInt (by omega) (by omega)] at c; omega
        · rw [zI_toInt (by omega) (by omega)] at c; omega
      · rw [(h1 q).1, zI_toInt (by omega) (by omega)] at c; omega
      · rw [(h2 q).1, zI_toInt (by omega) (by omega)] at c; omega
      · exact q
      · rw [h4 q, zI_toInt (by omega) (by omega)] at c; omega
    exact ⟨Or.inr rfl, hy (by rw [if_pos t3])⟩
  · rw [zI_toInt (by omega) (by omega)] at c
    have t3 : t.1 ≠ 3 := fun q => by rw [(h.2.2.2.1 q).1, zI_toInt (by omega) (by omega)] at c; omega
    rw [if_neg t3] at hn
    refine s_bad h rfl (Or.inl rfl) (fun I1 f1 m1 => ?_)
    refine And.intro (fun _ => ?_) (fun c => ?_)
    · exact ⟨Or.inl rfl, hn _ rfl I1 f1 m1⟩
    · rw [zI_toInt (by omega) (by omega)] at c
      omega
