/-! made in the reference: the next set; the table filled. -/
section MGOES
variable {Γ : AMG} {Q : QQ} {d : Nat} {I : II} {Lg : LJ} {R : RR} {gc : Nat → Nat}
theorem nxt_lt {s : Nat → Nat} {k n e : Nat} (hs : incr s n) (hk : k < n) (hlt : ∀ i, i < n → s i < e) (h : s k + 1 < e) : ∀ i, i < n → nxt s k i < e := fun i hi => by
  have h1 := hs.ge k hk
  unfold nxt
  split
  · omega
  · split
    · exact h
    · exact hlt i hi
set_option maxRecDepth 100000 in
theorem s_goesOn {n e : Nat} {x1 x2 : Int32} {s : Nat → Nat} (hn : n ≤ 4) (he : e ≤ 24) (hx1 : x1 = zI n) (hx2 : x2 = zI e) (hs : RA I 170 n (fun j => (s j : Int))) (hinc : incr s n) (hlt : ∀ j, j < n → s j < e)
    (h0 : (∀ i, i < n → s i + 1 = if i + 1 < n then s (i + 1) else e) → Q (some (vI (zI 0))) I Lg R (GM gc))
    (h1 : ∀ (I' : II) (k : Nat), k < n → (∀ i, i < k → s (i + 1) = s i + 1) → (k + 1 < n → s k + 1 < s (k + 1)) → s k + 1 < e → FrI (V0 [170]) I I' → RA I' 170 n (fun j => (nxt s k j : Int)) → Q (some (vI (zI 1))) I' Lg R (GM gc)) :
    am_Sp Γ d 0 0 mX12_goesOn [vR 12 0, vI x1, vI x2] I Lg R (GM gc) Q := by
  have h1t : x1.toInt = n := by rw [hx1, zI_toInt (by omega) (by omega)]
  have h2t : x2.toInt = e := by rw [hx2, zI_toInt (by omega) (by omega)]
  -- the lower ones anew
  have low : ∀ (k : Nat) (x3 : Int32), k < n → x3 = zI k → (∀ i, i < k → s (i + 1) = s i + 1) → (k + 1 < n → s k + 1 < s (k + 1)) → s k + 1 < e →
      ∀ (m i : Nat) (x4 : Int32) (I1 : II), i + m = k → x4 = zI i → FrI (V0 [170]) I I1 → (∀ j, j < n → I1 170 0 j = zI ((if j < i then j else if j = k then s k + 1 else s j : Nat) : Int)) →
        am_J Γ mX12_goesOn Q d 0 0 63 [some (vR 12 0), some (vI x1), some (vI x2), some (vI x3), some (vI x4)] [] I1 Lg R (GM gc) := by
    intro k x3 hk hx3 g1 g2 g3 m
    have h3t : x3.toInt = k := by rw [hx3, zI_toInt (by omega) (by omega)]
    induction m with
    | zero =>
      intro i x4 I1 hi hx4 f1 w1
      have ei : i = k := by omega
      subst ei
      have h4t : x4.toInt = i := by rw [hx4, zI_toInt (by omega) (by omega)]
      refine am_goN vX12_goesOn 20 ?_
      refine And.intro (fun _ => ?_) (fun z => ?_)
      · refine And.intro (Or.inr rfl) ?_
        exact h1 I1 i hk g1 g2 g3 f1 w1
      · rw [h4t, h3t] at z
        omega
    | succ m ih =>
      intro i x4 I1 hi hx4 f1 w1
      have h4t : x4.toInt = i := by rw [hx4, zI_toInt (by omega) (by omega)]
      refine am_goN vX12_goesOn 3 ?_
      refine And.intro (fun z => ?_) (fun _ => ?_)
      · rw [h4t, h3t] at z
        omega
      refine am_goN vX12_goesOn 20 ?_
      refine And.intro ⟨by omega, by omega⟩ ?_
      refine fun y ey I2 e2 => ?_
      refine fun y4 ey4 => ?_
      rw [h4t, Int.toNat_natCast] at e2
      refine ih (i + 1) y4 I2 (by omega) (by rw [ey4, hx4, zI_add]; congr 1) (by rw [e2]; exact f1.up rfl) (fun j hj => ?_)
      rw [e2]
      by_cases g : j = i
      · rw [g, up3_s, ey, hx4, if_pos (by omega)]
      · rw [up3_j _ g, w1 j hj]
        by_cases q : j < i
        · rw [if_pos q, if_pos (by omega)]
        · rw [if_neg q, if_neg (show ¬ j < i + 1 by omega)]
  have loop : ∀ (m k : Nat) (x3 : Int32) (l4 : Option AV), k + m = n → x3 = zI k → (∀ i, i < k → s i + 1 = if i + 1 < n then s (i + 1) else e) → am_J Γ mX12_goesOn Q d 0 0 2 [some (vR 12 0), some (vI x1), some (vI x2), some (vI x3), l4] [] I Lg R (GM gc) := by
    intro m
    induction m with
    | zero =>
      intro k x3 l4 hk hx3 hr
      have ek : k = n := by omega
      subst ek
      have h3t : x3.toInt = k := by rw [hx3, zI_toInt (by omega) (by omega)]
      refine am_goN vX12_goesOn 3 ?_
      refine And.intro (fun _ => ?_) (fun z => ?_)
      rotate_left
      · rw [h3t, h1t] at z
        omega
      refine am_goN vX12_goesOn 3 ?_
      refine And.intro (fun z => ?_) (fun _ => ?_)
      · rw [h3t, h1t] at z
        exact absurd rfl z
      refine am_goN vX12_goesOn 5 ?_
      refine And.intro (Or.inl rfl) ?_
      exact h0 hr
    | succ m ih =>
      intro k x3 l4 hk hx3 hr
      have hkn : k < n := by omega
      have h3t : x3.toInt = k := by rw [hx3, zI_toInt (by omega) (by omega)]
      have hsk := hs k hkn
      have hlk := hlt k hkn
      have cmp : ∀ (y z : Int32), z = zI ((s k + 1 : Nat) : Int) → y = zI ((if k + 1 < n then s (k + 1) else e : Nat) : Int) → am_J Γ mX12_goesOn Q d 0 0 34 [some (vR 12 0), some (vI x1), some (vI x2), some (vI x3), l4] [vI y, vI z] I Lg R (GM gc) := by
        intro y z hz hy
        have hb : (if k + 1 < n then s (k + 1) else e) < 25 := by
          split
          · have := hlt (k + 1) (by assumption); omega
          · omega
        have hyt : y.toInt = ((if k + 1 < n then s (k + 1) else e : Nat) : Int) := by rw [hy, zI_toInt (by omega) (by omega)]
        have hzt : z.toInt = ((s k + 1 : Nat) : Int) := by rw [hz, zI_toInt (by omega) (by omega)]
        refine am_goN vX12_goesOn 1 ?_
        refine And.intro (fun c => ?_) (fun c => ?_)
        · rw [hyt, hzt] at c
          refine am_goN vX12_goesOn 3 ?_
          refine And.intro (fun _ => ?_) (fun c2 => ?_)
          rotate_left
          · rw [h3t, h1t] at c2
            omega
          refine am_goN vX12_goesOn 10 ?_
          refine And.intro ⟨by omega, by omega⟩ ?_
          refine And.intro ⟨by omega, by omega⟩ ?_
          refine fun y2 ey2 I2 e2 => ?_
          refine fun x4 ex4 => ?_
          rw [h3t, Int.toNat_natCast] at e2 ey2
          have hrun : ∀ i, i < k → s (i + 1) = s i + 1 := fun i hi => by
            have := hr i hi
            rw [if_pos (by omega)] at this
            omega
          have hgap : k + 1 < n → s k + 1 < s (k + 1) := fun g => by
            rw [if_pos g] at c
            have := hinc k (k + 1) (by omega) g
            omega
          refine low k x3 hkn hx3 hrun hgap ?_ k 0 x4 I2 (by omega) ex4 (by rw [e2]; exact FrI.rf.up rfl) (fun j hj => ?_)
          · by_cases g : k + 1 < n
            · have := hgap g
              have := hlt (k + 1) g
              omega
            · rw [if_neg g] at c
              omega
          · rw [if_neg (Nat.not_lt_zero _), e2]
            by_cases g : j = k
            · rw [g, up3_s, ey2, hsk, if_pos rfl, zI_add]
              congr 1
            · rw [up3_j _ g, if_neg g]
              exact hs j hj
        · rw [hyt, hzt] at c
          refine am_goN vX12_goesOn 5 ?_
          refine fun y3 ey3 => ?_
          refine ih (k + 1) y3 l4 (by omega) (by rw [ey3, hx3, zI_add]; congr 1) (fun i hi => ?_)
          by_cases g : i = k
          · rw [g]; omega
          · exact hr i (by omega)
      have ht1 : (x3 + zI 1).toInt = ((k + 1 : Nat) : Int) := by rw [hx3, zI_add, zI_toInt (by omega) (by omega)]; omega
      refine am_goN vX12_goesOn 3 ?_
      refine And.intro (fun z => ?_) (fun _ => ?_)
      · rw [h3t, h1t] at z
        omega
      refine am_goN vX12_goesOn 11 ?_
      refine And.intro ⟨by omega, by omega⟩ ?_
      rw [h3t, Int.toNat_natCast, hsk]
      refine And.intro (fun z => ?_) (fun z => ?_)
      · rw [ht1, h1t] at z
        refine am_goN vX12_goesOn 1 ?_
        refine cmp _ _ (by rw [zI_add]; congr 1) (by rw [hx2, if_neg (by omega)])
      · rw [ht1, h1t] at z
        refine am_goN vX12_goesOn 7 ?_
        refine And.intro ⟨by omega, by omega⟩ ?_
        refine cmp _ _ (by rw [zI_add]; congr 1) ?_
        rw [ht1, Int.toNat_natCast, if_pos (by omega)]
        exact hs (k + 1) (by omega)
  refine am_runN vX12_goesOn 2 _ rfl rfl rfl rfl ?_
  refine fun y ey => ?_
  exact loop n 0 y _ (by omega) ey (fun i hi => absurd hi (Nat.not_lt_zero _))
end MGOES
abbrev ftv : List Nat := [168, 170, 172, 169]
section MFILL
variable {Γ : AMG} {Q : QQ} {d : Nat} {I : II} {Lg : LJ} {R : RR} {gc : Nat → Nat} {ml : List MC} {es : List EV} {mn : List Int}
theorem WTab.fr {I' : II} {P : Nat → Nat → Bool} (h : WTab I ml es mn) (hf : FrI P I I') (hP : ∀ v ∈ 60 :: 146 :: 172 :: 169 :: (mmv ++ mev), P v 0 = false) : WTab I' ml es mn :=
  ⟨h.1.fr hf (fun v hv => hP v (List.mem_cons_of_mem _ (List.mem_cons_of_mem _ (List.mem_cons_of_mem _ (List.mem_cons_of_mem _ (List.mem_append_left _ hv)))))), h.2.1.fr hf (fun v hv => hP v (List.mem_cons_of_mem _ (List.mem_cons_of_mem _ (List.mem_cons_of_mem _ (List.mem_cons_of_mem _ (List.mem_append_right _ hv)))))),
    h.2.2.1.fr hf (fun v hv => hP v (by simp only [List.mem_cons, List.not_mem_nil, or_false] at hv; rcases hv with rfl | rfl; exact List.mem_cons_self; exact List.mem_cons_of_mem _ List.mem_cons_self)), h.2.2.2.1.fr hf (hP _ (List.mem_cons_of_mem _ (List.mem_cons_of_mem _ List.mem_cons_self))), h.2.2.2.2.fr hf (hP _ (List.mem_cons_of_mem _ (List.mem_cons_of_mem _ (List.mem_cons_of_mem _ List.mem_cons_self))))⟩
/-- the stages from e on hold what they should -/
def TBk (I : II) (ml : List MC) (es : List EV) (mn : List Int) (e : Nat) : Prop := ∀ st, e ≤ st → st ≤ es.length → PT mn.length es.length (mwt ml es) (mmy ml es mn) (fun j => I 168 0 j) st (2 ^ mn.length) 0
theorem TBk.keep {I' : II} {e b : Nat} {x : Int32} (h : TBk I ml es mn (e + 1)) (hn : mn.length ≤ 4) (hes : es.length ≤ 24) (hb : b < 20475) (hI : I' = up3 I 168 0 (20475 * e + b) x) : TBk I' ml es mn (e + 1) := fun st h1 h2 => (h st h1 h2).stage (by omega) hn (fun j h3 h4 => by
  show I' 168 0 j = I 168 0 j
  rw [hI, up3_j _ (by omega)])
theorem TBk.same {I' : II} {e : Nat} (h : TBk I ml es mn e) (hI : I' 168 0 = I 168 0) : TBk I' ml es mn e := fun st h1 h2 => by
  rw [hI]
  exact h st h1 h2
set_option maxRecDepth 100000 in
/-- one stage's sets of one size, all -/
theorem m_sets {e idle k : Nat} {x1 x2 x3 : Int32} (hP : WPre ml es mn) (he : e < es.length) (hid : idle < 2 ^ mn.length) (hk : k + bits idle = mn.length) (hx1 : x1 = zI e) (hx2 : x2 = zI idle) (hx3 : x3 = zI k)
    (h : ∀ (I' : II) (l4 : Option AV), FrI (V0 ftv) I I' → WTab I' ml es mn → TBk I' ml es mn (e + 1) → PT mn.length es.length (mwt ml es) (mmy ml es mn) (fun j => I' 168 0 j) e (idle + 1) 0 → am_J Γ mX12_fillTable Q (d + 3) 0 0 130 [some (vR 12 0), some (vI x1), some (vI x2), some (vI x3), l4] [] I' Lg R (GM gc)) :
    ∀ (m : Nat) (s : Nat → Nat) (l4 : Option AV) (I1 : II), rks s k + m = bc e k → FrI (V0 ftv) I I1 → WTab I1 ml es mn → TBk I1 ml es mn (e + 1) → RA I1 170 k (fun j => (s j : Int)) → incr s k → (∀ j, j < k → s j < e) → PT mn.length es.length (mwt ml es) (mmy ml es mn) (fun j => I1 168 0 j) e idle (rks s k + 1) →
      am_J Γ mX12_fillTable Q (d + 3) 0 0 107 [some (vR 12 0), some (vI x1), some (vI x2), some (vI x3), l4] [] I1 Lg R (GM gc) := by
  have h24 := hP.2.1.1
  have h4 := hP.2.2.2.2.1
  have h3t : x3.toInt = k := by rw [hx3, zI_toInt (by omega) (by omega)]
  intro m
  induction m with
  | zero =>
    intro s l4 I1 hm f1 hW hT hs hinc hlt hp
    have := rks_lt k e hinc hlt
    omega
  | succ m ih =>
    intro s l4 I1 hm f1 hW hT hs hinc hlt hp
    refine am_goN vX12_fillTable 2 ?_
    refine And.intro (fun z => ?_) (fun z => ?_)
    · rw [h3t] at z
      have hk0 : k = 0 := by omega
      refine h I1 l4 f1 hW hT (hp.all hk ?_)
      rw [hk0, bc_0]
      omega
    rw [h3t] at z
    refine am_goN vX12_fillTable 5 ?_
    refine s_goesOn (by omega) (by omega) hx3 hx1 hs hinc hlt (fun hr => ?_) (fun I2 k0 hk0 g1 g2 g3 f2 hs2 => ?_)
    · refine And.intro (fun _ => ?_) (fun z2 => absurd rfl z2)
      refine h I1 l4 f1 hW hT (hp.all hk ?_)
      obtain ⟨k', rfl⟩ : ∃ k', k = k' + 1 := ⟨k - 1, by omega⟩
      have h1 := rks_run (s := s) k' (fun i hi => by
        have := hr i (by omega)
        rw [if_pos (by omega)] at this
        omega)
      have h2 := hr k' (by omega)
      rw [if_neg (by omega)] at h2
      rw [h2] at h1
      omega
    · refine And.intro (fun z2 => ?_) (fun _ => ?_)
      · rw [zI_toInt (by omega) (by omega)] at z2
        omega
      have hr := nxt_rks g1 k hk0
      have hi2 := nxt_incr hinc hk0 g2
      have hl2 := nxt_lt hinc hk0 hlt g3
      have hW2 := hW.fr f2 (by decide)
      have hT2 : TBk I2 ml es mn (e + 1) := hT.same (f2 _ _ rfl)
      refine am_goN vX12_fillTable 10 ?_
      refine s_workOut hP hW2 he hid hk hx1 hx2 hx3 hs2 hi2 hl2 (hT2 (e + 1) (Nat.le_refl _) (by omega)) (fun I3 x e3 hx => ?_)
      have hc := cell_in hi2 hl2 hk hid (show e ≤ 24 by omega) h4
      have f3 : FrI (V0 [168]) I2 I3 := by rw [e3]; exact FrI.rf.up rfl
      refine ih (nxt s k0) l4 I3 (by omega) ((f1.tr (f2.lst (by decide))).tr (f3.lst (by decide))) (hW2.fr f3 (by decide)) (hT2.keep h4 h24 hc e3) (hs2.fr f3 rfl) hi2 hl2 ?_
      refine PT.add (s := nxt s k0) (k := k) (x := x) (T := fun j => I2 168 0 j) ?_ hi2 hk (by omega) h4 (fun j => ?_) hx
      · rw [hr]
        have hp2 : PT mn.length es.length (mwt ml es) (mmy ml es mn) (fun j => I1 168 0 j) e idle (rks s k + 1) := hp
        rw [f2 168 0 rfl]
        exact hp2
      · show I3 168 0 j = _
        rw [e3, up3_a]
        by_cases g : j = 20475 * e + (off mn.length idle + rks (nxt s k0) k)
        · rw [if_pos ⟨rfl, rfl, g⟩, if_pos g]
        · rw [if_neg (fun q => g q.2.2), if_neg g]
set_option maxRecDepth 100000 in
theorem s_fillTable (hP : WPre ml es mn) (hm : MMAt I ml) (hp : MPAt I es) (hM : MMenAt I mn)
    (h : ∀ I' : II, FrI (V0 ftv) I I' → WTab I' ml es mn → TBk I' ml es mn 0 → Q none I' Lg R (GM gc)) :
    am_Sp Γ (d + 3) 0 0 mX12_fillTable [vR 12 0] I Lg R (GM gc) Q := by
  have h24 := hP.2.1.1
  have h4 := hP.2.2.2.2.1
  have hpow : ∀ n : Nat, n < 5 → 2 ^ n ≤ 16 := by decide +kernel
  have h16 := hpow mn.length (by omega)
  have hshl : zI 1 <<< (zI (mn.length : Int) &&& 31) = zI ((2 ^ mn.length : Nat) : Int) := by
    have := zI_shl (a := 1) (k := mn.length) (by omega) (by omega)
    rw [Nat.one_mul] at this
    exact this
  -- the masks, one after another
  have masks : ∀ (e : Nat) (x1 : Int32), e < es.length → x1 = zI e → (∀ (I' : II) (l2 l3 l4 : Option AV), FrI (V0 ftv) I I' → WTab I' ml es mn → TBk I' ml es mn e → am_J Γ mX12_fillTable Q (d + 3) 0 0 136 [some (vR 12 0), some (vI x1), l2, l3, l4] [] I' Lg R (GM gc)) →
      ∀ (m idle : Nat) (x2 : Int32) (l3 l4 : Option AV) (I1 : II), idle + m = 2 ^ mn.length → x2 = zI idle → FrI (V0 ftv) I I1 → WTab I1 ml es mn → TBk I1 ml es mn (e + 1) → PT mn.length es.length (mwt ml es) (mmy ml es mn) (fun j => I1 168 0 j) e idle 0 →
        am_J Γ mX12_fillTable Q (d + 3) 0 0 48 [some (vR 12 0), some (vI x1), some (vI x2), l3, l4] [] I1 Lg R (GM gc) := by
    intro e x1 he hx1 K m
    have h1t : x1.toInt = e := by rw [hx1, zI_toInt (by omega) (by omega)]
    induction m with
    | zero =>
      intro idle x2 l3 l4 I1 hi hx2 f1 hW hT hpt
      have ei : idle = 2 ^ mn.length := by omega
      have h2t : x2.toInt = idle := by rw [hx2, zI_toInt (by omega) (by omega)]
      refine am_goN vX12_fillTable 6 ?_
      refine And.intro (fun _ => ?_) (fun z => ?_)
      · refine K I1 _ l3 l4 f1 hW (fun st h1 h2 => ?_)
        by_cases g : st = e
        · rw [g, ← ei]; exact hpt
        · exact hT st (by omega) h2
      · have z : x2.toInt < (zI 1 <<< (I1 60 0 0 &&& 31)).toInt := z
        rw [hW.2.2.1.1, hshl, h2t, zI_toInt (by omega) (by omega)] at z
        omega
    | succ m ih =>
      intro idle x2 l3 l4 I1 hi hx2 f1 hW hT hpt
      have hid : idle < 2 ^ mn.length := by omega
      have h2t : x2.toInt = idle := by rw [hx2, zI_toInt (by omega) (by omega)]
      have hbn : bits idle ≤ mn.length := by rw [bits_eq hid h4]; exact btc_le idle mn.length
      obtain ⟨k, hk⟩ : ∃ k, k + bits idle = mn.length := ⟨mn.length - bits idle, by omega⟩
      have next : ∀ (I' : II) (l3 l4 : Option AV), FrI (V0 ftv) I I' → WTab I' ml es mn → TBk I' ml es mn (e + 1) → PT mn.length es.length (mwt ml es) (mmy ml es mn) (fun j => I' 168 0 j) e (idle + 1) 0 → am_J Γ mX12_fillTable Q (d + 3) 0 0 130 [some (vR 12 0), some (vI x1), some (vI x2), l3, l4] [] I' Lg R (GM gc) := by
        intro I' l3 l4 f2 hW2 hT2 hp2
        refine am_goN vX12_fillTable 5 ?_
        refine fun y ey => ?_
        exact ih (idle + 1) y l3 l4 I' (by omega) (by rw [ey, hx2, zI_add]; congr 1) f2 hW2 hT2 hp2
      refine am_goN vX12_fillTable 6 ?_
      refine And.intro (fun z => ?_) (fun _ => ?_)
      · have z : (zI 1 <<< (I1 60 0 0 &&& 31)).toInt ≤ x2.toInt := z
        rw [hW.2.2.1.1, hshl, h2t, zI_toInt (by omega) (by omega)] at z
        omega
      refine am_goN vX12_fillTable 9 ?_
      refine s_bitsO4 (by omega) hx2 ?_
      refine fun x3 ex3 => ?_
      have hx3 : x3 = zI k := by
        rw [ex3, hW.2.2.1.1, zI_sub]
        congr 1
        omega
      have h3t : x3.toInt = k := by rw [hx3, zI_toInt (by omega) (by omega)]
      refine And.intro (fun z => ?_) (fun z => ?_)
      rotate_left
      · rw [h3t, h1t] at z
        refine am_goN vX12_fillTable 1 ?_
        exact next I1 _ _ f1 hW hT (hpt.none hk (by omega))
      rw [h3t, h1t] at z
      -- the first set
      have fs : ∀ (n j : Nat) (x4 : Int32) (I1 : II), j + n = k → x4 = zI j → FrI (V0 ftv) I I1 → WTab I1 ml es mn → TBk I1 ml es mn (e + 1) → PT mn.length es.length (mwt ml es) (mmy ml es mn) (fun j => I1 168 0 j) e idle 0 → (∀ i, i < j → I1 170 0 i = zI i) →
          am_J Γ mX12_fillTable Q (d + 3) 0 0 79 [some (vR 12 0), some (vI x1), some (vI x2), some (vI x3), some (vI x4)] [] I1 Lg R (GM gc) := by
        intro n
        induction n with
        | zero =>
          intro j x4 I1 hj hx4 f1 hW hT hpt hset
          have ej : j = k := by omega
          subst ej
          have h4t : x4.toInt = j := by rw [hx4, zI_toInt (by omega) (by omega)]
          have hinc : incr (fun i => i) j := fun a b hab _ => hab
          have hlt : ∀ i, i < j → (fun i => i) i < e := fun i hi => by show i < e; omega
          have hr0 : rks (fun i => i) j = 0 := rks_id j (fun _ _ => rfl)
          have hs : RA I1 170 j (fun i => (((fun i => i) i : Nat) : Int)) := fun i hi => hset i hi
          refine am_goN vX12_fillTable 3 ?_
          refine And.intro (fun _ => ?_) (fun c => ?_)
          rotate_left
          · rw [h4t, h3t] at c
            omega
          refine am_goN vX12_fillTable 10 ?_
          refine s_workOut hP hW he hid hk hx1 hx2 hx3 hs hinc hlt (hT (e + 1) (Nat.le_refl _) (by omega)) (fun I3 x e3 hx => ?_)
          have hc := cell_in hinc hlt hk hid (show e ≤ 24 by omega) h4
          have f3 : FrI (V0 [168]) I1 I3 := by rw [e3]; exact FrI.rf.up rfl
          have hlt2 := rks_lt j e hinc hlt
          refine m_sets hP he hid hk hx1 hx2 hx3 (fun I' l4 f2 hW2 hT2 hp2 => next I' _ l4 f2 hW2 hT2 hp2) (bc e j) (fun i => i) _ I3 (by rw [hr0]; omega) (f1.tr (f3.lst (by decide))) (hW.fr f3 (by decide)) (hT.keep h4 h24 hc e3) (hs.fr f3 rfl) hinc hlt ?_
          refine PT.add (s := fun i => i) (k := j) (x := x) (T := fun j => I1 168 0 j) (by rw [hr0]; exact hpt) hinc hk (by omega) h4 (fun a => ?_) hx
          show I3 168 0 a = _
          rw [e3, up3_a]
          by_cases g : a = 20475 * e + (off mn.length idle + rks (fun i => i) j)
          · rw [if_pos ⟨rfl, rfl, g⟩, if_pos g]
          · rw [if_neg (fun q => g q.2.2), if_neg g]
        | succ n ih2 =>
          intro j x4 I1 hj hx4 f1 hW hT hpt hset
          have h4t : x4.toInt = j := by rw [hx4, zI_toInt (by omega) (by omega)]
          refine am_goN vX12_fillTable 3 ?_
          refine And.intro (fun c => ?_) (fun _ => ?_)
          · rw [h4t, h3t] at c
            omega
          refine am_goN vX12_fillTable 10 ?_
          refine And.intro ⟨by omega, by omega⟩ ?_
          refine fun y ey I2 e2 => ?_
          refine fun y4 ey4 => ?_
          rw [h4t, Int.toNat_natCast] at e2
          have f2 : FrI (V0 [170]) I1 I2 := by rw [e2]; exact FrI.rf.up rfl
          refine ih2 (j + 1) y4 I2 (by omega) (by rw [ey4, hx4, zI_add]; congr 1) (f1.tr (f2.lst (by decide))) (hW.fr f2 (by decide)) (hT.same (f2 _ _ rfl)) (by rw [f2 168 0 rfl]; exact hpt) (fun i hi => ?_)
          rw [e2]
          by_cases g : i = j
          · rw [g, up3_s, ey, hx4]
          · rw [up3_j _ g]
            exact hset i (by omega)
      refine am_goN vX12_fillTable 2 ?_
      refine fun x4 ex4 => ?_
      exact fs k 0 x4 I1 (by omega) ex4 f1 hW hT hpt (fun i hi => absurd hi (Nat.not_lt_zero _))
  -- the stages, the last first
  have stages : ∀ (e : Nat) (x1 : Int32) (l2 l3 l4 : Option AV) (I1 : II), e ≤ es.length → x1 = zI ((e : Int) - 1) → FrI (V0 ftv) I I1 → WTab I1 ml es mn → TBk I1 ml es mn e → am_J Γ mX12_fillTable Q (d + 3) 0 0 42 [some (vR 12 0), some (vI x1), l2, l3, l4] [] I1 Lg R (GM gc) := by
    intro e
    induction e with
    | zero =>
      intro x1 l2 l3 l4 I1 he hx1 f1 hW hT
      have h1t : x1.toInt = -1 := by rw [hx1, zI_toInt (by omega) (by omega)]; omega
      refine am_goN vX12_fillTable 5 ?_
      refine And.intro (fun _ => ?_) (fun z => ?_)
      · exact h I1 f1 hW hT
      · omega
    | succ e ih =>
      intro x1 l2 l3 l4 I1 he hx1 f1 hW hT
      have hx1 : x1 = zI e := by rw [hx1]; congr 1; omega
      have h1t : x1.toInt = e := by rw [hx1, zI_toInt (by omega) (by omega)]
      refine am_goN vX12_fillTable 2 ?_
      refine And.intro (fun z => ?_) (fun _ => ?_)
      · omega
      refine am_goN vX12_fillTable 5 ?_
      refine fun x2 ex2 => ?_
      refine masks e x1 (by omega) hx1 (fun I' l2 l3 l4 f2 hW2 hT2 => ?_) (2 ^ mn.length) 0 x2 l3 l4 I1 (by omega) ex2 f1 hW hT PT.zero
      refine am_goN vX12_fillTable 5 ?_
      refine fun y ey => ?_
      refine ih y l2 l3 l4 I' (by omega) ?_ f2 hW2 hT2
      rw [ey, hx1, zI_add]
      congr 1
  -- the last stage
  have last : ∀ (m a : Nat) (x1 : Int32) (l2 l3 l4 : Option AV) (I1 : II), a + m = 20475 → x1 = zI a → FrI (V0 ftv) I I1 → WTab I1 ml es mn → (∀ j, j < a → I1 168 0 (20475 * es.length + j) = zI 0) → am_J Γ mX12_fillTable Q (d + 3) 0 0 6 [some (vR 12 0), some (vI x1), l2, l3, l4] [] I1 Lg R (GM gc) := by
    intro m
    induction m with
    | zero =>
      intro a x1 l2 l3 l4 I1 ha hx1 f1 hW hz
      have h1t : x1.toInt = a := by rw [hx1, zI_toInt (by omega) (by omega)]
      refine am_goN vX12_fillTable 3 ?_
      refine And.intro (fun _ => ?_) (fun z => ?_)
      · refine am_goN vX12_fillTable 10 ?_
        refine fun y ey => ?_
        refine stages es.length y l2 l3 l4 I1 (Nat.le_refl _) (by rw [ey, hW.2.1.1, zI_sub]) f1 hW (fun st h1 h2 => ?_)
        rw [show st = es.length by omega]
        exact PT.last (fun j hj => hz j (by omega)) h24 h4
      · rw [h1t, zI_toInt (by omega) (by omega)] at z
        omega
    | succ m ih =>
      intro a x1 l2 l3 l4 I1 ha hx1 f1 hW hz
      have h1t : x1.toInt = a := by rw [hx1, zI_toInt (by omega) (by omega)]
      refine am_goN vX12_fillTable 3 ?_
      refine And.intro (fun z => ?_) (fun _ => ?_)
      · rw [h1t, zI_toInt (by omega) (by omega)] at z
        omega
      have ix : (zI 20475 * I1 72 0 0 + x1).toInt = ((20475 * es.length + a : Nat) : Int) := by
        rw [hW.2.1.1, hx1, zI_mul, zI_add, zI_toInt (by omega) (by omega)]
        omega
      refine am_goN vX12_fillTable 20 ?_
      refine And.intro ⟨by omega, by omega⟩ ?_
      refine fun y ey I2 e2 => ?_
      refine fun y1 ey1 => ?_
      rw [ix, Int.toNat_natCast] at e2
      have f2 : FrI (V0 [168]) I1 I2 := by rw [e2]; exact FrI.rf.up rfl
      refine ih (a + 1) y1 l2 l3 l4 I2 (by omega) (by rw [ey1, hx1, zI_add]; congr 1) (f1.tr (f2.lst (by decide))) (hW.fr f2 (by decide)) (fun j hj => ?_)
      rw [e2]
      by_cases g : j = a
      · rw [g, up3_s, ey]
      · rw [up3_j _ (by omega)]
        exact hz j (by omega)
  refine am_runN vX12_fillTable 10 _ rfl rfl rfl rfl ?_
  refine s_prepare h4 hM.1 (fun I1 f1 hb ho => ?_)
  refine fun x1 ex1 => ?_
  exact last 20475 0 x1 _ _ _ I1 (by omega) ex1 (f1.lst (by decide)) ⟨hm.fr f1 (by decide), hp.fr f1 (by decide), hM.fr f1 (by decide), hb, ho⟩ (fun j hj => absurd hj (Nat.not_lt_zero _))
end MFILL
