/-! The reference's lists of events. -/
abbrev mlv : List Nat := [147, 151, 148, 149, 150]
def RC (I : II) (i : Nat) (S : PS) : Prop := I 147 0 i = zI S.1.length ∧ S.1.length ≤ 24 ∧ I 151 0 i = zI (cond S.2 1 0) ∧ ∀ (k : Nat) (e : EV), S.1[k]? = some e → I 148 0 (24 * i + k) = zI e.1 ∧ I 149 0 (24 * i + k) = zI e.2.1 ∧ I 150 0 (24 * i + k) = zI e.2.2 ∧ 0 ≤ e.1 ∧ e.1 ≤ 4000
theorem RC.fr {I I' : II} {P : Nat → Nat → Bool} {i : Nat} {S : PS} (h : RC I i S) (hf : FrI P I I') (hP : ∀ v ∈ mlv, P v 0 = false) : RC I' i S := by
  obtain ⟨h1, h2, h3, h4⟩ := h
  refine ⟨by rw [hf _ _ (hP _ (by decide))]; exact h1, h2, by rw [hf _ _ (hP _ (by decide))]; exact h3, fun k e he => ?_⟩
  obtain ⟨q1, q2, q3, q4⟩ := h4 k e he
  exact ⟨by rw [hf _ _ (hP _ (by decide))]; exact q1, by rw [hf _ _ (hP _ (by decide))]; exact q2, by rw [hf _ _ (hP _ (by decide))]; exact q3, q4⟩
/-- nothing but list i has changed -/
def LFr (i : Nat) (I I' : II) : Prop := FrI (V0 mlv) I I' ∧ ∀ (j : Nat) (S : PS), j ≠ i → RC I j S → RC I' j S
theorem LFr.rf {i : Nat} {I : II} : LFr i I I := ⟨FrI.rf, fun _ _ _ h => h⟩
theorem LFr.tr {i : Nat} {I I' I2 : II} (h : LFr i I I') (h2 : LFr i I' I2) : LFr i I I2 := ⟨h.1.tr h2.1, fun j S hj hc => h2.2 j S hj (h.2 j S hj hc)⟩
def rput (S : PS) (e : EV) : PS := if S.1.length = 24 ∨ 4000 < e.1 then (S.1, true) else (S.1 ++ [e], S.2)
def Rel (S : PS) (L : LST) : Prop := (S.2 = true ∧ badL L) ∨ (S.2 = false ∧ ¬ badL L ∧ S.1 = L)
theorem badL_app {L M : LST} (h : badL L) : badL (L ++ M) := by
  rcases h with h | ⟨e, he, h⟩
  · exact Or.inl (by rw [List.length_append]; omega)
  · exact Or.inr ⟨e, List.mem_append_left _ he, h⟩
theorem badL_nil : ¬ badL [] := by
  rintro (h | ⟨e, he, h⟩)
  · simp at h
  · cases he
theorem Rel.put {S : PS} {L : LST} {e : EV} (h : Rel S L) : Rel (rput S e) (L ++ [e]) := by
  unfold rput
  rcases h with ⟨h1, h2⟩ | ⟨h1, h2, h3⟩
  · split
    · exact Or.inl ⟨rfl, badL_app h2⟩
    · exact Or.inl ⟨h1, badL_app h2⟩
  · split
    · next q =>
      refine Or.inl ⟨rfl, ?_⟩
      rcases q with q | q
      · exact Or.inl (by rw [List.length_append, ← h3]; show 24 < S.1.length + 1; omega)
      · exact Or.inr ⟨e, List.mem_append_right _ List.mem_cons_self, q⟩
    · next q =>
      refine Or.inr ⟨h1, ?_, by rw [h3]⟩
      rintro (z | ⟨x, hx, z⟩)
      · rw [List.length_append] at z
        have z : 24 < L.length + 1 := z
        rw [h3] at q
        have : ¬ 24 < L.length := fun w => h2 (Or.inl w)
        omega
      · rcases List.mem_append.mp hx with hx | hx
        · exact h2 (Or.inr ⟨x, hx, z⟩)
        · rw [List.mem_singleton] at hx
          subst hx
          omega
theorem Rel.puts {S : PS} {L : LST} (h : Rel S L) : ∀ M : LST, Rel (M.foldl rput S) (L ++ M)
  | [] => by rw [List.append_nil]; exact h
  | e :: M => by
    have := Rel.puts (h.put (e := e)) M
    rw [List.append_assoc] at this
    exact this
theorem foldl_rput_true : ∀ (M : LST) (c : LST), (M.foldl rput (c, true)).2 = true
  | [], c => rfl
  | e :: M, c => by
    show (M.foldl rput (rput (c, true) e)).2 = true
    have : ∃ c', rput (c, true) e = (c', true) := by
      unfold rput
      split
      · exact ⟨_, rfl⟩
      · exact ⟨_, rfl⟩
    obtain ⟨c', hc⟩ := this
    rw [hc]
    exact foldl_rput_true M c'
theorem badL_sh {L : LST} {l : Int} (hl : 0 ≤ l) (h : badL L) : badL (L.map (shE l)) := by
  rcases h with h | ⟨e, he, h⟩
  · exact Or.inl (by rw [List.length_map]; exact h)
  · refine Or.inr ⟨shE l e, List.mem_map_of_mem he, ?_⟩
    show 4000 < e.1 + l
    omega
theorem badL_appR {L M : LST} (h : badL M) : badL (L ++ M) := by
  rcases h with h | ⟨e, he, h⟩
  · exact Or.inl (by rw [List.length_append]; omega)
  · exact Or.inr ⟨e, List.mem_append_right _ he, h⟩
theorem Rel.pour {S T : PS} {L M : LST} {l : Int} (hl : 0 ≤ l) (h : Rel S L) (h2 : Rel T M) : Rel ((T.1.map (shE l)).foldl rput (S.1, S.2 || T.2)) (L ++ M.map (shE l)) := by
  rcases h2 with ⟨g1, g2⟩ | ⟨g1, g2, g3⟩
  · refine Or.inl ⟨?_, badL_appR (badL_sh hl g2)⟩
    rw [g1, Bool.or_true]
    exact foldl_rput_true _ _
  · rw [g1, Bool.or_false, g3]
    exact Rel.puts h _
def RLs (I : II) (i : Nat) (L : LST) : Prop := ∃ S : PS, RC I i S ∧ Rel S L
theorem RLs.fr {I I' : II} {P : Nat → Nat → Bool} {i : Nat} {L : LST} (h : RLs I i L) (hf : FrI P I I') (hP : ∀ v ∈ mlv, P v 0 = false) : RLs I' i L := by
  obtain ⟨S, h1, h2⟩ := h
  exact ⟨S, h1.fr hf hP, h2⟩
theorem RLs.ne {I I' : II} {i j : Nat} {L : LST} (h : RLs I j L) (hf : LFr i I I') (hj : j ≠ i) : RLs I' j L := by
  obtain ⟨S, h1, h2⟩ := h
  exact ⟨S, hf.2 j S hj h1, h2⟩
set_option maxRecDepth 100000 in
theorem s_mclear {Γ : AMG} {Q : QQ} {d i : Nat} {x1 : Int32} {I : II} {Lg : LJ} {R : RR} {gc : Nat → Nat} (hx : x1 = zI i) (hi : i < 14)
    (h : ∀ I' : II, LFr i I I' → RLs I' i [] → Q none I' Lg R (GM gc)) : am_Sp Γ d 0 0 mX12_clear [vR 12 0, vI x1] I Lg R (GM gc) Q := by
  have hxt : x1.toInt = i := by rw [hx, zI_toInt (by omega) (by omega)]
  have hxn : x1.toInt.toNat = i := by rw [hxt]; omega
  refine am_runN vX12_clear 40 _ rfl rfl rfl rfl ?_
  refine And.intro ⟨by omega, by omega⟩ ?_
  rw [hxn]
  refine fun y1 ey1 I1 e1 => ?_
  refine And.intro ⟨by omega, by omega⟩ ?_
  rw [hxn]
  refine And.intro (Or.inl rfl) ?_
  refine fun y2 ey2 I2 e2 => ?_
  have r1 : ∀ j, I2 147 0 j = if j = i then zI 0 else I 147 0 j := fun j => by rw [e2, up3_v _ (by decide), e1, up3_a, ey1]; simp
  have r2 : ∀ j, I2 151 0 j = if j = i then zI 0 else I 151 0 j := fun j => by rw [e2, up3_a, ey2, e1, up3_v _ (by decide)]; simp
  have f2 : FrI (V0 [147, 151]) I I2 := by rw [e2, e1]; exact (FrI.rf.up rfl).up rfl
  refine h I2 ⟨f2.mono (fun v i h => V0_sub (by decide) h), fun j S hj hc => ?_⟩ ⟨([], false), ⟨by rw [r1, if_pos rfl]; rfl, by simp, by rw [r2, if_pos rfl]; rfl, fun k e he => by simp at he⟩, Or.inr ⟨rfl, badL_nil, rfl⟩⟩
  obtain ⟨c1, c2, c3, c4⟩ := hc
  refine ⟨by rw [r1, if_neg hj]; exact c1, c2, by rw [r2, if_neg hj]; exact c3, fun k e he => ?_⟩
  obtain ⟨q1, q2, q3, q4⟩ := c4 k e he
  exact ⟨by rw [f2 _ _ rfl]; exact q1, by rw [f2 _ _ rfl]; exact q2, by rw [f2 _ _ rfl]; exact q3, q4⟩
set_option maxRecDepth 100000 in
theorem s_mput {Γ : AMG} {Q : QQ} {d i : Nat} {x1 x2 x3 x4 : Int32} {e : EV} {I : II} {Lg : LJ} {R : RR} {gc : Nat → Nat} {S : PS} (hx : x1 = zI i) (hi : i < 14) (h2 : x2 = zI e.1) (h3 : x3 = zI e.2.1) (h4 : x4 = zI e.2.2) (ht0 : 0 ≤ e.1) (ht1 : e.1 ≤ 1000000) (hc : RC I i S)
    (h : ∀ I' : II, LFr i I I' → RC I' i (rput S e) → Q none I' Lg R (GM gc)) : am_Sp Γ d 0 0 mX12_put [vR 12 0, vI x1, vI x2, vI x3, vI x4] I Lg R (GM gc) Q := by
  have hxt : x1.toInt = i := by rw [hx, zI_toInt (by omega) (by omega)]
  have hxn : x1.toInt.toNat = i := by rw [hxt]; omega
  obtain ⟨c1, c2, c3, c4⟩ := id hc
  have hmt : (I 147 0 i).toInt = S.1.length := by rw [c1, zI_toInt (by omega) (by omega)]
  have h2t : x2.toInt = e.1 := by rw [h2, zI_toInt (by omega) (by omega)]
  unfold rput at h
  have k18 : (S.1.length = 24 ∨ 4000 < e.1) → am_J Γ mX12_put Q d 0 0 18 [some (vR 12 0), some (vI x1), some (vI x2), some (vI x3), some (vI x4), none] [] I Lg R (GM gc) := by
    intro hb
    rw [if_pos hb] at h
    refine am_goN vX12_put 40 ?_
    refine And.intro ⟨by omega, by omega⟩ ?_
    rw [hxn]
    refine And.intro (Or.inr rfl) ?_
    refine fun y ey I1 e1 => ?_
    have r2 : ∀ j, I1 151 0 j = if j = i then zI 1 else I 151 0 j := fun j => by rw [e1, up3_a, ey]; simp
    have f1 : FrI (V0 [151]) I I1 := by rw [e1]; exact FrI.rf.up rfl
    refine h I1 ⟨f1.mono (fun v i h => V0_sub (by decide) h), fun j T hj hc => ?_⟩ ⟨by rw [f1 _ _ rfl]; exact c1, c2, by rw [r2, if_pos rfl]; rfl, fun k x hk => ?_⟩
    · obtain ⟨g1, g2, g3, g4⟩ := hc
      refine ⟨by rw [f1 _ _ rfl]; exact g1, g2, by rw [r2, if_neg hj]; exact g3, fun k x hk => ?_⟩
      obtain ⟨q1, q2, q3, q4⟩ := g4 k x hk
      exact ⟨by rw [f1 _ _ rfl]; exact q1, by rw [f1 _ _ rfl]; exact q2, by rw [f1 _ _ rfl]; exact q3, q4⟩
    · obtain ⟨q1, q2, q3, q4⟩ := c4 k x hk
      exact ⟨by rw [f1 _ _ rfl]; exact q1, by rw [f1 _ _ rfl]; exact q2, by rw [f1 _ _ rfl]; exact q3, q4⟩
  refine am_runN vX12_put 6 _ rfl rfl rfl rfl ?_
  refine And.intro ⟨by omega, by omega⟩ ?_
  rw [hxn]
  refine And.intro (fun c => ?_) (fun c => ?_)
  · rw [hmt, zI_toInt (by omega) (by omega)] at c
    exact k18 (Or.inl (by omega))
  rw [hmt, zI_toInt (by omega) (by omega)] at c
  refine am_goN vX12_put 3 ?_
  refine And.intro (fun c5 => ?_) (fun c5 => ?_)
  · rw [h2t, zI_toInt (by omega) (by omega)] at c5
    rw [if_neg (by omega)] at h
    have hix : (zI 24 * x1 + I 147 0 i) = zI (24 * i + S.1.length : Nat) := by
      rw [hx, c1, zI_mul, zI_add]
      congr 1
    refine am_goN vX12_put 60 ?_
    refine And.intro ⟨by omega, by omega⟩ ?_
    rw [hxn]
    refine fun x5 ex5 => ?_
    have hx5 : x5 = zI (24 * i + S.1.length : Nat) := ex5.trans hix
    have h5t : x5.toInt = (24 * i + S.1.length : Nat) := by rw [hx5, zI_toInt (by omega) (by omega)]
    have h5n : x5.toInt.toNat = 24 * i + S.1.length := by rw [h5t]; omega
    refine And.intro ⟨by omega, by omega⟩ ?_
    rw [h5n]
    refine fun y1 ey1 I1 e1 => ?_
    refine And.intro ⟨by omega, by omega⟩ ?_
    rw [h5n]
    refine fun y2 ey2 I2 e2 => ?_
    refine And.intro ⟨by omega, by omega⟩ ?_
    rw [h5n]
    refine fun y3 ey3 I3 e3 => ?_
    refine And.intro ⟨by omega, by omega⟩ ?_
    refine And.intro ⟨by omega, by omega⟩ ?_
    rw [hxn]
    refine fun y4 ey4 I4 e4 => ?_
    have r1 : ∀ j, I4 147 0 j = if j = i then zI (S.1.length + 1 : Nat) else I 147 0 j := fun j => by
      rw [e4, up3_a, ey4, e3, up3_v _ (by decide), e2, up3_v _ (by decide), e1, up3_v _ (by decide), c1, zI_add]
      simp
    have r2 : ∀ j, I4 148 0 j = if j = 24 * i + S.1.length then zI e.1 else I 148 0 j := fun j => by
      rw [e4, up3_v _ (by decide), e3, up3_v _ (by decide), e2, up3_v _ (by decide), e1, up3_a, ey1, h2]
      simp
    have r3 : ∀ j, I4 149 0 j = if j = 24 * i + S.1.length then zI e.2.1 else I 149 0 j := fun j => by
      rw [e4, up3_v _ (by decide), e3, up3_v _ (by decide), e2, up3_a, ey2, h3, e1, up3_v _ (by decide)]
      simp
    have r4 : ∀ j, I4 150 0 j = if j = 24 * i + S.1.length then zI e.2.2 else I 150 0 j := fun j => by
      rw [e4, up3_v _ (by decide), e3, up3_a, ey3, h4, e2, up3_v _ (by decide), e1, up3_v _ (by decide)]
      simp
    have f4 : FrI (V0 [148, 149, 150, 147]) I I4 := by rw [e4, e3, e2, e1]; exact (((FrI.rf.up rfl).up rfl).up rfl).up rfl
    refine h I4 ⟨f4.mono (fun v i h => V0_sub (by decide) h), fun j T hj hc => ?_⟩ ⟨by rw [r1, if_pos rfl, List.length_append]; rfl, by rw [List.length_append]; show S.1.length + 1 ≤ 24; omega, by rw [f4 _ _ rfl]; exact c3, fun k x hk => ?_⟩
    · obtain ⟨g1, g2, g3, g4⟩ := hc
      refine ⟨by rw [r1, if_neg hj]; exact g1, g2, by rw [f4 _ _ rfl]; exact g3, fun k x hk => ?_⟩
      have hkl := (List.getElem?_eq_some_iff.mp hk).1
      have hne : 24 * j + k ≠ 24 * i + S.1.length := by omega
      rw [r2, r3, r4, if_neg hne, if_neg hne, if_neg hne]
      exact g4 k x hk
    · rcases app_get hk with ⟨hk1, hk2⟩ | ⟨hk1, hk2⟩
      · subst hk1
        subst hk2
        rw [r2, r3, r4, if_pos rfl, if_pos rfl, if_pos rfl]
        exact ⟨rfl, rfl, rfl, ht0, by omega⟩
      · have hne : 24 * i + k ≠ 24 * i + S.1.length := by omega
        rw [r2, r3, r4, if_neg hne, if_neg hne, if_neg hne]
        exact c4 k x hk2
  · rw [h2t, zI_toInt (by omega) (by omega)] at c5
    exact k18 (Or.inr (by omega))
theorem mpour_loop {Γ : AMG} {Q : QQ} {d i j : Nat} {x1 x2 x3 : Int32} {lt : Int} {I : II} {Lg : LJ} {R : RR} {gc : Nat → Nat} {T : PS} {S0 : PS} (hij : i ≠ j) (hi : i < 14) (hj : j < 14) (hx1 : x1 = zI i) (hx2 : x2 = zI j) (hx3 : x3 = zI lt) (hl0 : 0 ≤ lt) (hl1 : lt ≤ 100000)
    (h : ∀ I' : II, LFr j I I' → RC I' j ((T.1.map (shE lt)).foldl rput S0) → Q none I' Lg R (GM gc)) :
    ∀ (m k : Nat) (x4 : Int32) (I1 : II), k + m = T.1.length → x4 = zI k → LFr j I I1 → RC I1 i T → RC I1 j (((T.1.map (shE lt)).take k).foldl rput S0) →
      am_J Γ mX12_pour Q (d + 1) 0 0 19 [some (vR 12 0), some (vI x1), some (vI x2), some (vI x3), some (vI x4)] [] I1 Lg R (GM gc) := by
  have hxt : x1.toInt = i := by rw [hx1, zI_toInt (by omega) (by omega)]
  have hxn : x1.toInt.toNat = i := by rw [hxt]; omega
  intro m
  induction m with
  | zero =>
    intro k x4 I1 hm hx hf hT hS
    have hl := hT.2.1
    have hmt : (I1 147 0 i).toInt = T.1.length := by rw [hT.1, zI_toInt (by omega) (by omega)]
    refine am_goN vX12_pour 40 ?_
    refine And.intro ⟨by omega, by omega⟩ ?_
    rw [hxn]
    refine And.intro (fun c => ?_) (fun c => ?_)
    · rw [List.take_of_length_le (by rw [List.length_map]; omega)] at hS
      exact h I1 hf hS
    · rw [hmt, hx, zI_toInt (by omega) (by omega)] at c
      omega
  | succ m ih =>
    intro k x4 I1 hm hx hf hT hS
    have hl := hT.2.1
    have hmt : (I1 147 0 i).toInt = T.1.length := by rw [hT.1, zI_toInt (by omega) (by omega)]
    have hk : k < T.1.length := by omega
    have he : T.1[k]? = some T.1[k] := List.getElem?_eq_getElem hk
    generalize T.1[k] = e at he
    obtain ⟨q1, q2, q3, q4, q5⟩ := hT.2.2.2 k e he
    have hix : (zI 24 * x1 + x4) = zI (24 * i + k : Nat) := by
      rw [hx1, hx, zI_mul, zI_add]
      congr 1
    have hit : (zI 24 * x1 + x4).toInt = (24 * i + k : Nat) := by rw [hix, zI_toInt (by omega) (by omega)]
    have hin : (zI 24 * x1 + x4).toInt.toNat = 24 * i + k := by rw [hit]; omega
    refine am_goN vX12_pour 60 ?_
    refine And.intro ⟨by omega, by omega⟩ ?_
    rw [hxn]
    refine And.intro (fun c => ?_) (fun c => ?_)
    · rw [hmt, hx, zI_toInt (by omega) (by omega)] at c
      omega
    refine And.intro ⟨by omega, by omega⟩ ?_
    refine And.intro ⟨by omega, by omega⟩ ?_
    refine And.intro ⟨by omega, by omega⟩ ?_
    rw [hin]
    refine s_mput (i := j) (e := shE lt e) (S := ((T.1.map (shE lt)).take k).foldl rput S0) hx2 hj (by rw [q1, hx3, zI_add]; rfl) q2 q3 (by show 0 ≤ e.1 + lt; omega) (by show e.1 + lt ≤ 1000000; omega) hS (fun I2 f2 c2 => ?_)
    refine fun y ey => ?_
    refine ih (k + 1) y I2 (by omega) (by rw [ey, hx, zI_add]; congr 1) (hf.tr f2) (f2.2 i T hij hT) ?_
    rw [take_snoc (e := shE lt e) (by rw [List.getElem?_map, he]; rfl), List.foldl_append]
    exact c2
set_option maxRecDepth 100000 in
theorem s_mpour {Γ : AMG} {Q : QQ} {d i j : Nat} {x1 x2 x3 : Int32} {lt : Int} {I : II} {Lg : LJ} {R : RR} {gc : Nat → Nat} {L M : LST} (hij : i ≠ j) (hi : i < 14) (hj : j < 14) (hx1 : x1 = zI i) (hx2 : x2 = zI j) (hx3 : x3 = zI lt) (hl0 : 0 ≤ lt) (hl1 : lt ≤ 100000) (hT : RLs I i M) (hS : RLs I j L)
    (h : ∀ I' : II, LFr j I I' → RLs I' j (L ++ M.map (shE lt)) → Q none I' Lg R (GM gc)) : am_Sp Γ (d + 1) 0 0 mX12_pour [vR 12 0, vI x1, vI x2, vI x3] I Lg R (GM gc) Q := by
  obtain ⟨T, hT, rT⟩ := hT
  obtain ⟨S, hS, rS⟩ := hS
  have hxt : x1.toInt = i := by rw [hx1, zI_toInt (by omega) (by omega)]
  have hxn : x1.toInt.toNat = i := by rw [hxt]; omega
  have hyt : x2.toInt = j := by rw [hx2, zI_toInt (by omega) (by omega)]
  have hyn : x2.toInt.toNat = j := by rw [hyt]; omega
  have k16 : ∀ I1 : II, LFr j I I1 → RC I1 j (S.1, S.2 || T.2) → am_J Γ mX12_pour Q (d + 1) 0 0 16 [some (vR 12 0), some (vI x1), some (vI x2), some (vI x3), none] [] I1 Lg R (GM gc) := by
    intro I1 f1 c1
    refine am_goN vX12_pour 2 ?_
    refine fun x4 ex4 => ?_
    refine mpour_loop (i := i) (j := j) (T := T) (S0 := (S.1, S.2 || T.2)) (I := I) hij hi hj hx1 hx2 hx3 hl0 hl1 (fun I2 f2 c2 => h I2 f2 ⟨_, c2, Rel.pour hl0 rS rT⟩) T.1.length 0 x4 I1 (by omega) ex4 f1 (f1.2 i T hij hT) c1
  refine am_runN vX12_pour 5 _ rfl rfl rfl rfl ?_
  refine And.intro ⟨by omega, by omega⟩ ?_
  rw [hxn]
  refine And.intro (fun c => ?_) (fun c => ?_)
  · rw [hT.2.2.1] at c
    have hT2 : T.2 = false := by
      cases hh : T.2
      · rfl
      · rw [hh] at c
        have c : (zI 1).toInt = 0 := c
        rw [zI_toInt (by omega) (by omega)] at c
        omega
    refine k16 I LFr.rf ?_
    rw [hT2, Bool.or_false]
    exact hS
  · rw [hT.2.2.1] at c
    have hT2 : T.2 = true := by
      cases hh : T.2
      · rw [hh] at c
        have c : (zI 0).toInt ≠ 0 := c
        exact absurd (zI_toInt (by omega) (by omega)) c
      · rfl
    refine am_goN vX12_pour 5 ?_
    refine And.intro ⟨by omega, by omega⟩ ?_
    rw [hyn]
    refine And.intro (Or.inr rfl) ?_
    refine fun y ey I1 e1 => ?_
    have r2 : ∀ k, I1 151 0 k = if k = j then zI 1 else I 151 0 k := fun k => by rw [e1, up3_a, ey]; simp
    have f1 : FrI (V0 [151]) I I1 := by rw [e1]; exact FrI.rf.up rfl
    refine k16 I1 ⟨f1.mono (fun v i h => V0_sub (by decide) h), fun k T hk hc => ?_⟩ ?_
    · obtain ⟨g1, g2, g3, g4⟩ := hc
      refine ⟨by rw [f1 _ _ rfl]; exact g1, g2, by rw [r2, if_neg hk]; exact g3, fun n x hn => ?_⟩
      obtain ⟨q1, q2, q3, q4⟩ := g4 n x hn
      exact ⟨by rw [f1 _ _ rfl]; exact q1, by rw [f1 _ _ rfl]; exact q2, by rw [f1 _ _ rfl]; exact q3, q4⟩
    · obtain ⟨g1, g2, g3, g4⟩ := hS
      refine ⟨by rw [f1 _ _ rfl]; exact g1, g2, by rw [r2, if_pos rfl, hT2, Bool.or_true]; rfl, fun n x hn => ?_⟩
      obtain ⟨q1, q2, q3, q4⟩ := g4 n x hn
      exact ⟨by rw [f1 _ _ rfl]; exact q1, by rw [f1 _ _ rfl]; exact q2, by rw [f1 _ _ rfl]; exact q3, q4⟩
