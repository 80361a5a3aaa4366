/-! Rules: references written, rows read and written. -/
theorem am_up3_neG {α : Type} {f : Nat → Nat → Nat → α} {c i k : Nat} {x : α} : ∀ c2 i2, ¬ (c2 = c ∧ i2 = i) → up3 f c i k x c2 i2 = f c2 i2 := by
  intro c2 i2 hne
  funext j2
  unfold up3
  rw [if_neg]
  rintro ⟨rfl, rfl, -⟩
  exact hne ⟨rfl, rfl⟩
theorem am_kept {H H1 : Heap} {locs : List Loc} {z a j : Nat} (hl : ∀ q ∈ locs, z ≤ q.base) (ha : z ≤ a) : ∀ q ∈ locs ++ [⟨a, j⟩], z ≤ Loc.base q := fun q hq => (List.mem_append.mp hq).elim (hl q) (fun h => by rw [List.mem_singleton.mp h]; exact ha)
section AMR
variable {Γ : AMG} {M : MD} {Q : QQ} {d k n pc pc' pc2 : Nat} {L L' : LL} {st st' : List AV} {I I' : II} {Lg Lg' : LJ} {R R' : RR} {G G' : GG}
theorem ar_putS {c i f idx : Nat} {r : vw_C} {t b z b2 : Nat} (hr : vwCl[c]? = some r) (hk : f < r.2.2) (hlink : Cond.fieldLink M.1 idx (r.2.1 f).1 (r.2.1 f).2.1 (r.2.1 f).2.2.1 ∈ am_BIG) (hfin : (r.2.1 f).2.2.2 = false ∨ (r.2.1 f).2.2.2 = true ∧ M.2.1.name = "<init>" ∧ (r.2.1 f).1 = M.1) (hs : am_slot c f = (3, t, b, z)) (hb2 : b2 = am_sidx b z i) (hd : decode M.2.2.1 pc = .ok (.putfield idx, 3)) (h : am_J Γ M Q d k n (pc + 3) L st I Lg R (up3 G.1 c i f true, G.2)) : am_J Γ M Q d k n pc L (vR t b2 :: vR c i :: st) I Lg R G := by
  refine am_J.wr (G' := (up3 G.1 c i f true, G.2)) (fun ρ p e Rm s m args below meth c0 H locs cells slots Z ls C hW hoS hl kk => ?_) rfl (fun b => b.tl.tl) h
  obtain ⟨hck, h13⟩ := am_ckN c r hr
  have hi := hoS.tl.hd.lt (am_lt13 h13)
  have htN : t < am_NC := by have := (am_chk0 hck (am_lt13 h13)).2.2.2 f hk; rw [hs] at this; exact this
  have hb3 : b2 < G.2 t := hoS.hd.lt htN
  have ety : (∃ q, am_ty c f = .object q) ∨ ∃ q, am_ty c f = .array q := by
    have h9 := am_tagOk_all c h13 f (by rw [hck]; exact hk)
    unfold am_tagOk at h9
    rw [hs] at h9
    generalize am_ty c f = ty at h9
    cases ty <;> first | exact Or.inl ⟨_, rfl⟩ | exact Or.inr ⟨_, rfl⟩ | cases h9
  have eref : am_ref R (up3 G.1 c i f true, G.2) c i f = some (t, b2) := by
    unfold am_ref; rw [hck]; simp only [hs, hb2]; simp [up3]
  have eoth : ∀ j, ¬ j = f → am_ref R (up3 G.1 c i f true, G.2) c i j = am_ref R G c i j := by
    intro j hj
    have : up3 G.1 c i f true c i j = G.1 c i j := by simp [up3, hj]
    unfold am_ref
    simp only [this]
  refine am_putW (v := .ref (ρ t b2)) C hW hl hr hi hk hlink hfin (by rcases ety with ⟨q, e9⟩ | ⟨q, e9⟩ <;> rw [e9] <;> rfl) (by rcases ety with ⟨q, e9⟩ | ⟨q, e9⟩ <;> rw [e9] <;> rfl) hd fun H1 locs1 z1 o1 at1 l1 => kk H1 locs1 (hW.upd (am_lt13 h13) hi z1 o1 ?_ (fun _ _ _ => rfl) (fun _ _ _ => rfl) (fun _ _ _ => rfl) am_up3_neG rfl (fun k2 c2 i2 _ hk2 => ?_)) l1
  · have e9 : am_E Γ ρ I Lg R (up3 G.1 c i f true, G.2) c i = .inr (c, (List.range r.2.2).map (am_val ρ I Lg R (up3 G.1 c i f true, G.2) c i)) := by unfold am_E; rw [hck]; rfl
    rw [e9, ← am_set_map (k := f) (v := .ref (ρ t b2)) (f := am_val ρ I Lg R G c i) (fun j hj => ?_)]
    · exact at1
    · by_cases ej : j = f
      · subst ej
        unfold am_val
        simp only [hs, eref, if_true]
        rfl
      · rw [if_neg ej]
        unfold am_val
        simp only [eoth j ej]
  · by_cases ek : k2 = f
    · subst ek
      rw [eref] at hk2
      cases hk2
      exact ⟨htN, hb3⟩
    · rw [eoth k2 ek] at hk2
      exact hW.2.2.2.2.2.2.2.1 c i k2 c2 i2 (am_lt13 h13) hi hk2
theorem ar_putD {c i f idx : Nat} {r : vw_C} {v t z b2 : Nat} (hr : vwCl[c]? = some r) (hk : f < r.2.2) (hlink : Cond.fieldLink M.1 idx (r.2.1 f).1 (r.2.1 f).2.1 (r.2.1 f).2.2.1 ∈ am_BIG) (hfin : (r.2.1 f).2.2.2 = false ∨ (r.2.1 f).2.2.2 = true ∧ M.2.1.name = "<init>" ∧ (r.2.1 f).1 = M.1) (hs : am_slot c f = (4, v, t, z)) (hd : decode M.2.2.1 pc = .ok (.putfield idx, 3)) (h : am_J Γ M Q d k n (pc + 3) L st I Lg (up3 R v i 0 (some b2)) G) : am_J Γ M Q d k n pc L (vR t b2 :: vR c i :: st) I Lg R G := by
  refine am_J.wr (fun ρ p e Rm s m args below meth c0 H locs cells slots Z ls C hW hoS hl kk => ?_) rfl (fun b => b.tl.tl) h
  obtain ⟨hck, h13⟩ := am_ckN c r hr
  have hi := hoS.tl.hd.lt (am_lt13 h13)
  obtain ⟨-, -, -, hsl⟩ := am_chk0 hck (am_lt13 h13)
  have hvt : am_oR v = (c, f) ∧ t < am_NC := by have := hsl f hk; rw [hs] at this; exact this
  have ety : ∃ q, am_ty c f = .object q := by
    have h9 := am_tagOk_all c h13 f (by rw [hck]; exact hk)
    unfold am_tagOk at h9
    rw [hs] at h9
    generalize am_ty c f = ty at h9
    cases ty <;> first | exact ⟨_, rfl⟩ | cases h9
  have eref : am_ref (up3 R v i 0 (some b2)) G c i f = (some b2 : Option Nat).map (fun b => (t, b)) := by
    unfold am_ref; rw [hck]; simp only [hs]; simp [up3]
  have eoth : ∀ j, j < r.2.2 → ¬ j = f → am_ref (up3 R v i 0 (some b2)) G c i j = am_ref R G c i j := by
    intro j hj hne
    have hj9 := hsl j hj
    unfold am_ref
    rw [hck]
    rcases hsj : am_slot c j with ⟨a9, v9, t9, b9⟩
    rw [hsj] at hj9
    match a9, hj9 with
    | 0, _ => rfl
    | 1, _ => rfl
    | 2, _ => rfl
    | 3, _ => rfl
    | 4, hj9 => simp only [show up3 R v i 0 (some b2) v9 i 0 = R v9 i 0 from am_up3_v hvt.1 hj9.1 hne]
    | _ + 5, hj9 => exact hj9.elim
  refine am_putW (v := .ref (ρ t b2)) C hW hl hr hi hk hlink hfin (by obtain ⟨q, e9⟩ := ety; rw [e9]; rfl) (by obtain ⟨q, e9⟩ := ety; rw [e9]; rfl) hd fun H1 locs1 z1 o1 at1 l1 => kk H1 locs1 (hW.upd (am_lt13 h13) hi z1 o1 ?_ (fun _ _ _ => rfl) (fun _ _ _ => rfl) (am_up3_ne hvt.1) (fun _ _ _ => rfl) rfl (fun k2 c2 i2 hkn hk2 => ?_)) l1
  · have e9 : am_E Γ ρ I Lg (up3 R v i 0 (some b2)) G c i = .inr (c, (List.range r.2.2).map (am_val ρ I Lg (up3 R v i 0 (some b2)) G c i)) := by unfold am_E; rw [hck]; rfl
    rw [e9, ← am_set_map (k := f) (v := .ref (ρ t b2)) (f := am_val ρ I Lg R G c i) (fun j hj => ?_)]
    · exact at1
    · by_cases ej : j = f
      · subst ej
        unfold am_val
        simp only [hs, eref, if_true]
        rfl
      · rw [if_neg ej]
        unfold am_val
        simp only [eoth j hj ej]
  · by_cases ek : k2 = f
    · subst ek
      rw [eref] at hk2
      cases hk2
      exact ⟨hvt.2, hoS.hd.lt hvt.2⟩
    · rw [eoth k2 (hkn _ _ _ hck) ek] at hk2
      exact hW.2.2.2.2.2.2.2.1 c i k2 c2 i2 (am_lt13 h13) hi hk2
theorem ar_putN {c i f idx : Nat} {r : vw_C} {v t z : Nat} (hr : vwCl[c]? = some r) (hk : f < r.2.2) (hlink : Cond.fieldLink M.1 idx (r.2.1 f).1 (r.2.1 f).2.1 (r.2.1 f).2.2.1 ∈ am_BIG) (hfin : (r.2.1 f).2.2.2 = false ∨ (r.2.1 f).2.2.2 = true ∧ M.2.1.name = "<init>" ∧ (r.2.1 f).1 = M.1) (hs : am_slot c f = (4, v, t, z)) (hd : decode M.2.2.1 pc = .ok (.putfield idx, 3)) (h : am_J Γ M Q d k n (pc + 3) L st I Lg (up3 R v i 0 (none)) G) : am_J Γ M Q d k n pc L (vN :: vR c i :: st) I Lg R G := by
  refine am_J.wr (fun ρ p e Rm s m args below meth c0 H locs cells slots Z ls C hW hoS hl kk => ?_) rfl (fun b => b.tl.tl) h
  obtain ⟨hck, h13⟩ := am_ckN c r hr
  have hi := hoS.tl.hd.lt (am_lt13 h13)
  obtain ⟨-, -, -, hsl⟩ := am_chk0 hck (am_lt13 h13)
  have hvt : am_oR v = (c, f) ∧ t < am_NC := by have := hsl f hk; rw [hs] at this; exact this
  have ety : ∃ q, am_ty c f = .object q := by
    have h9 := am_tagOk_all c h13 f (by rw [hck]; exact hk)
    unfold am_tagOk at h9
    rw [hs] at h9
    generalize am_ty c f = ty at h9
    cases ty <;> first | exact ⟨_, rfl⟩ | cases h9
  have eref : am_ref (up3 R v i 0 (none)) G c i f = (none : Option Nat).map (fun b => (t, b)) := by
    unfold am_ref; rw [hck]; simp only [hs]; simp [up3]
  have eoth : ∀ j, j < r.2.2 → ¬ j = f → am_ref (up3 R v i 0 (none)) G c i j = am_ref R G c i j := by
    intro j hj hne
    have hj9 := hsl j hj
    unfold am_ref
    rw [hck]
    rcases hsj : am_slot c j with ⟨a9, v9, t9, b9⟩
    rw [hsj] at hj9
    match a9, hj9 with
    | 0, _ => rfl
    | 1, _ => rfl
    | 2, _ => rfl
    | 3, _ => rfl
    | 4, hj9 => simp only [show up3 R v i 0 (none) v9 i 0 = R v9 i 0 from am_up3_v hvt.1 hj9.1 hne]
    | _ + 5, hj9 => exact hj9.elim
  refine am_putW (v := .null) C hW hl hr hi hk hlink hfin (by obtain ⟨q, e9⟩ := ety; rw [e9]; rfl) (by obtain ⟨q, e9⟩ := ety; rw [e9]; rfl) hd fun H1 locs1 z1 o1 at1 l1 => kk H1 locs1 (hW.upd (am_lt13 h13) hi z1 o1 ?_ (fun _ _ _ => rfl) (fun _ _ _ => rfl) (am_up3_ne hvt.1) (fun _ _ _ => rfl) rfl (fun k2 c2 i2 hkn hk2 => ?_)) l1
  · have e9 : am_E Γ ρ I Lg (up3 R v i 0 (none)) G c i = .inr (c, (List.range r.2.2).map (am_val ρ I Lg (up3 R v i 0 (none)) G c i)) := by unfold am_E; rw [hck]; rfl
    rw [e9, ← am_set_map (k := f) (v := .null) (f := am_val ρ I Lg R G c i) (fun j hj => ?_)]
    · exact at1
    · by_cases ej : j = f
      · subst ej
        unfold am_val
        simp only [hs, eref, if_true]
        rfl
      · rw [if_neg ej]
        unfold am_val
        simp only [eoth j hj ej]
  · by_cases ek : k2 = f
    · subst ek
      rw [eref] at hk2
      cases hk2
      
    · rw [eoth k2 (hkn _ _ _ hck) ek] at hk2
      exact hW.2.2.2.2.2.2.2.1 c i k2 c2 i2 (am_lt13 h13) hi hk2
theorem ar_iald {c i N v z t : Nat} {j : Int32} (hck : am_ck c = (1, N, v, z, t)) (h0 : 0 ≤ j.toInt) (h1 : j.toInt < N) (hd : decode M.2.2.1 pc = .ok (.iaload, 1)) (h : am_J Γ M Q d k n (pc + 1) L (vI (I v i j.toInt.toNat) :: st) I Lg R G) : am_J Γ M Q d k n pc L (vI j :: vR c i :: st) I Lg R G :=
  am_J.rd (fun ρ p e Rm s m args below meth c0 H locs cells slots Z ls C hW hoS kk => by
    have hc : c < am_NC := am_ckNC (a := 0) hck (by decide)
    have hi := hoS.tl.hd.lt hc
    have ht : t = 0 := by have := am_chkT_ok c hc; unfold am_chkT at this; rw [hck] at this; simp only [Bool.and_eq_true, beq_iff_eq] at this; exact this.2
    subst ht
    have hlt := am_vlt h0 h1
    have e1 : am_aV ρ I Lg R G c i j.toNatClampNeg = .int (I v i j.toInt.toNat) := by unfold am_aV; rw [hck]; rfl
    exact W.iald (v := .int (I v i j.toInt.toNat)) C.1 C.2.1 (hW.arr (a := 0) hck (by decide) hi) ((C.2.2.2.2.2.2.2.2.1.1.2 0 _ rfl).1 N _) (fun q => by cases q) (by rw [arrV_size]; exact am_vin h0 h1) (by rw [arrV_read _ _ hlt, e1]) rfl rfl hd (kk hoS.tl.tl.i)) h
theorem ar_zald {c i N v z t : Nat} {j : Int32} (hck : am_ck c = (2, N, v, z, t)) (h0 : 0 ≤ j.toInt) (h1 : j.toInt < N) (hd : decode M.2.2.1 pc = .ok (.baload, 1)) (h : am_J Γ M Q d k n (pc + 1) L (vI (I v i j.toInt.toNat) :: st) I Lg R G) : am_J Γ M Q d k n pc L (vI j :: vR c i :: st) I Lg R G :=
  am_J.rd (fun ρ p e Rm s m args below meth c0 H locs cells slots Z ls C hW hoS kk => by
    have hc : c < am_NC := am_ckNC (a := 1) hck (by decide)
    have hi := hoS.tl.hd.lt hc
    have ht : t = 1 := by have := am_chkT_ok c hc; unfold am_chkT at this; rw [hck] at this; simp only [Bool.and_eq_true, beq_iff_eq] at this; exact this.2
    subst ht
    have hlt := am_vlt h0 h1
    have e1 : am_aV ρ I Lg R G c i j.toNatClampNeg = .int (I v i j.toInt.toNat) := by unfold am_aV; rw [hck]; rfl
    exact W.zald (v := .int (I v i j.toInt.toNat)) C.1 C.2.1 (hW.arr (a := 1) hck (by decide) hi) ((C.2.2.2.2.2.2.2.2.1.1.2 1 _ rfl).1 N _) (fun q => by cases q) (by rw [arrV_size]; exact am_vin h0 h1) (by rw [arrV_read _ _ hlt, e1]) rfl rfl hd (kk hoS.tl.tl.i)) h
theorem ar_lald {c i N v z t : Nat} {j : Int32} (hck : am_ck c = (3, N, v, z, t)) (h0 : 0 ≤ j.toInt) (h1 : j.toInt < N) (hd : decode M.2.2.1 pc = .ok (.laload, 1)) (h : am_J Γ M Q d k n (pc + 1) L (vL (Lg v i j.toInt.toNat) :: st) I Lg R G) : am_J Γ M Q d k n pc L (vI j :: vR c i :: st) I Lg R G :=
  am_J.rd (fun ρ p e Rm s m args below meth c0 H locs cells slots Z ls C hW hoS kk => by
    have hc : c < am_NC := am_ckNC (a := 2) hck (by decide)
    have hi := hoS.tl.hd.lt hc
    have ht : t = 2 := by have := am_chkT_ok c hc; unfold am_chkT at this; rw [hck] at this; simp only [Bool.and_eq_true, beq_iff_eq] at this; exact this.2
    subst ht
    have hlt := am_vlt h0 h1
    have e1 : am_aV ρ I Lg R G c i j.toNatClampNeg = .long (Lg v i j.toInt.toNat) := by unfold am_aV; rw [hck]; rfl
    exact W.lald (v := .long (Lg v i j.toInt.toNat)) C.1 C.2.1 (hW.arr (a := 2) hck (by decide) hi) ((C.2.2.2.2.2.2.2.2.1.1.2 2 _ rfl).1 N _) (fun q => by cases q) (by rw [arrV_size]; exact am_vin h0 h1) (by rw [arrV_read _ _ hlt, e1]) rfl rfl hd (kk hoS.tl.tl.l)) h
theorem ar_iast {c i N v z t : Nat} {j : Int32} {x : Int32} (hck : am_ck c = (1, N, v, z, t)) (h0 : 0 ≤ j.toInt) (h1 : j.toInt < N) (hd : decode M.2.2.1 pc = .ok (.iastore, 1)) (h : am_J Γ M Q d k n (pc + 1) L st (up3 I v i j.toInt.toNat x) (Lg) R G) : am_J Γ M Q d k n pc L (vI x :: vI j :: vR c i :: st) I Lg R G := by
  refine am_J.wr (fun ρ p e Rm s m args below meth c0 H locs cells slots Z ls C hW hoS hl kk => ?_) rfl (fun b => b.tl.tl.tl) h
  have hc : c < am_NC := am_ckNC (a := 0) hck (by decide)
  have hi := hoS.tl.tl.hd.lt hc
  have ht : am_oI v = (c, 0) ∧ t = 0 := by have := am_chkT_ok c hc; unfold am_chkT at this; rw [hck] at this; simp only [Bool.and_eq_true, beq_iff_eq] at this; exact this
  obtain ⟨hv, rfl⟩ := ht
  refine W.iast C.1 C.2.1 (hW.arr (a := 0) hck (by decide) hi) ((C.2.2.2.2.2.2.2.2.1.1.2 0 _ rfl).1 N _) (fun q => by cases q) (by rw [arrV_size]; exact am_vin h0 h1) rfl rfl hd fun H1 e z1 oq => kk H1 _ (hW.upd hc hi z1 oq (am_at_arr (a := 0) hck ?_) (am_up3_ne (k := 0) hv) (fun _ _ _ => rfl) (fun _ _ _ => rfl) (fun _ _ _ => rfl) rfl (fun k2 c2 i2 _ hk2 => hW.2.2.2.2.2.2.2.1 c i k2 c2 i2 hc hi hk2)) (am_kept (H := H) (H1 := H1) hl (hW.2.2.1 c i hc hi))
  · skip
    rw [e, arrV_store]
    congr 2
    funext q
    unfold updV am_aV
    rw [hck]
    by_cases hq : q = j.toNatClampNeg
    · rw [if_pos hq]
      subst hq
      simp [up3]
    · rw [if_neg hq]
      simp [up3, hq]
theorem ar_zast {c i N v z t : Nat} {j : Int32} {x : Int32} (hck : am_ck c = (2, N, v, z, t)) (h0 : 0 ≤ j.toInt) (h1 : j.toInt < N) (hx : x = zI 0 ∨ x = zI 1) (hd : decode M.2.2.1 pc = .ok (.bastore, 1)) (h : am_J Γ M Q d k n (pc + 1) L st (up3 I v i j.toInt.toNat x) (Lg) R G) : am_J Γ M Q d k n pc L (vI x :: vI j :: vR c i :: st) I Lg R G := by
  refine am_J.wr (fun ρ p e Rm s m args below meth c0 H locs cells slots Z ls C hW hoS hl kk => ?_) rfl (fun b => b.tl.tl.tl) h
  have hc : c < am_NC := am_ckNC (a := 1) hck (by decide)
  have hi := hoS.tl.tl.hd.lt hc
  have ht : am_oI v = (c, 0) ∧ t = 1 := by have := am_chkT_ok c hc; unfold am_chkT at this; rw [hck] at this; simp only [Bool.and_eq_true, beq_iff_eq] at this; exact this
  obtain ⟨hv, rfl⟩ := ht
  refine W.zast C.1 C.2.1 (hW.arr (a := 1) hck (by decide) hi) ((C.2.2.2.2.2.2.2.2.1.1.2 1 _ rfl).1 N _) (fun q => by cases q) (by rw [arrV_size]; exact am_vin h0 h1) rfl rfl hd fun H1 e z1 oq => kk H1 _ (hW.upd hc hi z1 oq (am_at_arr (a := 1) hck ?_) (am_up3_ne (k := 0) hv) (fun _ _ _ => rfl) (fun _ _ _ => rfl) (fun _ _ _ => rfl) rfl (fun k2 c2 i2 _ hk2 => hW.2.2.2.2.2.2.2.1 c i k2 c2 i2 hc hi hk2)) (am_kept (H := H) (H1 := H1) hl (hW.2.2.1 c i hc hi))
  · have enar : narrow .boolean (.int x) = .int x := by rcases hx with rfl | rfl <;> rfl
    rw [enar] at e
    rw [e, arrV_store]
    congr 2
    funext q
    unfold updV am_aV
    rw [hck]
    by_cases hq : q = j.toNatClampNeg
    · rw [if_pos hq]
      subst hq
      simp [up3]
    · rw [if_neg hq]
      simp [up3, hq]
theorem ar_last {c i N v z t : Nat} {j : Int32} {x : Int64} (hck : am_ck c = (3, N, v, z, t)) (h0 : 0 ≤ j.toInt) (h1 : j.toInt < N) (hd : decode M.2.2.1 pc = .ok (.lastore, 1)) (h : am_J Γ M Q d k n (pc + 1) L st (I) (up3 Lg v i j.toInt.toNat x) R G) : am_J Γ M Q d k n pc L (vL x :: vI j :: vR c i :: st) I Lg R G := by
  refine am_J.wr (fun ρ p e Rm s m args below meth c0 H locs cells slots Z ls C hW hoS hl kk => ?_) rfl (fun b => b.tl.tl.tl) h
  have hc : c < am_NC := am_ckNC (a := 2) hck (by decide)
  have hi := hoS.tl.tl.hd.lt hc
  have ht : am_oL v = (c, 0) ∧ t = 2 := by have := am_chkT_ok c hc; unfold am_chkT at this; rw [hck] at this; simp only [Bool.and_eq_true, beq_iff_eq] at this; exact this
  obtain ⟨hv, rfl⟩ := ht
  refine W.last C.1 C.2.1 (hW.arr (a := 2) hck (by decide) hi) ((C.2.2.2.2.2.2.2.2.1.1.2 2 _ rfl).1 N _) (fun q => by cases q) (by rw [arrV_size]; exact am_vin h0 h1) rfl rfl hd fun H1 e z1 oq => kk H1 _ (hW.upd hc hi z1 oq (am_at_arr (a := 2) hck ?_) (fun _ _ _ => rfl) (am_up3_ne (k := 0) hv) (fun _ _ _ => rfl) (fun _ _ _ => rfl) rfl (fun k2 c2 i2 _ hk2 => hW.2.2.2.2.2.2.2.1 c i k2 c2 i2 hc hi hk2)) (am_kept (H := H) (H1 := H1) hl (hW.2.2.1 c i hc hi))
  · skip
    rw [e, arrV_store]
    congr 2
    funext q
    unfold updV am_aV
    rw [hck]
    by_cases hq : q = j.toNatClampNeg
    · rw [if_pos hq]
      subst hq
      simp [up3]
    · rw [if_neg hq]
      simp [up3, hq]
theorem am_tyR {Γ : AMG} {t y : Nat} (h : y = 4 ∧ t = 7 ∨ (y = 5 ∧ t = 8 ∨ (y = 6 ∧ t = 0 ∨ y = 7))) : ∃ ty, (am_tys Γ)[y]? = some (Γ.cy y, ty) ∧ ty.isReference = true := by
  rcases h with ⟨rfl, -⟩ | ⟨rfl, -⟩ | ⟨rfl, -⟩ | rfl <;> exact ⟨_, rfl, rfl⟩
theorem ar_aaldS {c i N t b y : Nat} {j : Int32} (hck : am_ck c = (4, N, t, b, y)) (h0 : 0 ≤ j.toInt) (h1 : j.toInt < N) (hin : G.1 c i j.toInt.toNat = true) (hd : decode M.2.2.1 pc = .ok (.aaload, 1)) (h : am_J Γ M Q d k n (pc + 1) L (vR t (am_aidx b j.toInt.toNat) :: st) I Lg R G) : am_J Γ M Q d k n pc L (vI j :: vR c i :: st) I Lg R G :=
  am_J.rd (fun ρ p e Rm s m args below meth c0 H locs cells slots Z ls C hW hoS kk => by
    have hc : c < am_NC := am_ckNC (a := 3) hck (by decide)
    have hi := hoS.tl.hd.lt hc
    have ht := am_chkT_ok c hc
    unfold am_chkT at ht
    rw [hck] at ht
    simp only [Bool.and_eq_true, Bool.or_eq_true, beq_iff_eq] at ht
    obtain ⟨ty, hty, hrf⟩ := am_tyR (Γ := Γ) ht.2
    have hlt := am_vlt h0 h1
    have e2 : am_ref R G c i j.toInt.toNat = some (t, am_aidx b j.toInt.toNat) := by unfold am_ref; rw [hck]; simp only [hin, (Nat.blt_eq.mpr hlt : Nat.blt j.toInt.toNat N = true), Bool.and_self]; rfl
    have e1 : am_aV ρ I Lg R G c i j.toNatClampNeg = .ref (ρ t (am_aidx b j.toInt.toNat)) := by
      unfold am_aV; rw [hck]
      show va_rf ((am_ref R G c i j.toInt.toNat).map (fun p => ρ p.1 p.2)) = _
      rw [e2]; rfl
    exact W.aald (v := .ref (ρ t (am_aidx b j.toInt.toNat))) C.1 C.2.1 (hW.arr (a := 3) hck (by decide) hi) ((C.2.2.2.2.2.2.2.2.1.1.2 y _ hty).1 N _) hrf (fun q => by cases q) (by rw [arrV_size]; exact am_vin h0 h1) (by rw [arrV_read _ _ hlt, e1]) rfl rfl hd (kk (am_okS.cons (v := vR t (am_aidx b j.toInt.toNat)) (Or.inl (hW.2.2.2.2.2.2.2.1 c i _ _ _ hc hi e2)) hoS.tl.tl))) h
theorem ar_aaldN {c i N v t y : Nat} {j : Int32} (hck : am_ck c = (5, N, v, t, y)) (h0 : 0 ≤ j.toInt) (h1 : j.toInt < N) (hR : R v i j.toInt.toNat = none) (hd : decode M.2.2.1 pc = .ok (.aaload, 1)) (h : am_J Γ M Q d k n (pc + 1) L (vN :: st) I Lg R G) : am_J Γ M Q d k n pc L (vI j :: vR c i :: st) I Lg R G :=
  am_J.rd (fun ρ p e Rm s m args below meth c0 H locs cells slots Z ls C hW hoS kk => by
    have hc : c < am_NC := am_ckNC (a := 4) hck (by decide)
    have hi := hoS.tl.hd.lt hc
    have ht : t = 1 ∧ y = 3 := by have := am_chkT_ok c hc; unfold am_chkT at this; rw [hck] at this; simp only [Bool.and_eq_true, beq_iff_eq] at this; exact this.2
    obtain ⟨rfl, rfl⟩ := ht
    have hlt := am_vlt h0 h1
    have e2 : am_ref R G c i j.toInt.toNat = (none : Option Nat).map (fun b => (1, b)) := by unfold am_ref; rw [hck]; simp only [hR]
    have e1 : am_aV ρ I Lg R G c i j.toNatClampNeg = .null := by
      unfold am_aV; rw [hck]
      show va_rf ((am_ref R G c i j.toInt.toNat).map (fun p => ρ p.1 p.2)) = _
      rw [e2]; rfl
    exact W.aald (v := .null) C.1 C.2.1 (hW.arr (a := 4) hck (by decide) hi) ((C.2.2.2.2.2.2.2.2.1.1.2 3 _ rfl).1 N _) rfl (fun q => by cases q) (by rw [arrV_size]; exact am_vin h0 h1) (by rw [arrV_read _ _ hlt, e1]) rfl rfl hd (kk (am_okS.cons (v := vN) trivial hoS.tl.tl))) h
theorem ar_aaldD {c i N v t y b : Nat} {j : Int32} (hck : am_ck c = (5, N, v, t, y)) (h0 : 0 ≤ j.toInt) (h1 : j.toInt < N) (hR : R v i j.toInt.toNat = some b) (hd : decode M.2.2.1 pc = .ok (.aaload, 1)) (h : am_J Γ M Q d k n (pc + 1) L (vR t b :: st) I Lg R G) : am_J Γ M Q d k n pc L (vI j :: vR c i :: st) I Lg R G :=
  am_J.rd (fun ρ p e Rm s m args below meth c0 H locs cells slots Z ls C hW hoS kk => by
    have hc : c < am_NC := am_ckNC (a := 4) hck (by decide)
    have hi := hoS.tl.hd.lt hc
    have ht : t = 1 ∧ y = 3 := by have := am_chkT_ok c hc; unfold am_chkT at this; rw [hck] at this; simp only [Bool.and_eq_true, beq_iff_eq] at this; exact this.2
    obtain ⟨rfl, rfl⟩ := ht
    have hlt := am_vlt h0 h1
    have e2 : am_ref R G c i j.toInt.toNat = (some b : Option Nat).map (fun b => (1, b)) := by unfold am_ref; rw [hck]; simp only [hR]
    have e1 : am_aV ρ I Lg R G c i j.toNatClampNeg = .ref (ρ 1 b) := by
      unfold am_aV; rw [hck]
      show va_rf ((am_ref R G c i j.toInt.toNat).map (fun p => ρ p.1 p.2)) = _
      rw [e2]; rfl
    exact W.aald (v := .ref (ρ 1 b)) C.1 C.2.1 (hW.arr (a := 4) hck (by decide) hi) ((C.2.2.2.2.2.2.2.2.1.1.2 3 _ rfl).1 N _) rfl (fun q => by cases q) (by rw [arrV_size]; exact am_vin h0 h1) (by rw [arrV_read _ _ hlt, e1]) rfl rfl hd (kk (am_okS.cons (v := vR 1 b) (Or.inl (hW.2.2.2.2.2.2.2.1 c i _ _ _ hc hi e2)) hoS.tl.tl))) h
theorem ar_alen {c i a9 N x y t : Nat} (hck : am_ck c = (a9 + 1, N, x, y, t)) (ha : a9 < 5) (hd : decode M.2.2.1 pc = .ok (.arraylength, 1)) (h : am_J Γ M Q d k n (pc + 1) L (vI (zI N) :: st) I Lg R G) : am_J Γ M Q d k n pc L (vR c i :: st) I Lg R G :=
  am_J.rd (fun ρ p e Rm s m args below meth c0 H locs cells slots Z ls C hW hoS kk => by
    have hc : c < am_NC := am_ckNC hck ha
    have hi := hoS.hd.lt hc
    have hty : ∃ ty, (am_tys Γ)[t]? = some (Γ.cy t, ty) := by
      have ht := am_chkT_ok c hc
      unfold am_chkT at ht
      rw [hck] at ht
      match a9, ha, ht with
      | 0, _, ht => simp only [Bool.and_eq_true, beq_iff_eq] at ht; rw [ht.2]; exact ⟨_, rfl⟩
      | 1, _, ht => simp only [Bool.and_eq_true, beq_iff_eq] at ht; rw [ht.2]; exact ⟨_, rfl⟩
      | 2, _, ht => simp only [Bool.and_eq_true, beq_iff_eq] at ht; rw [ht.2]; exact ⟨_, rfl⟩
      | 3, _, ht =>
        simp only [Bool.and_eq_true, Bool.or_eq_true, beq_iff_eq] at ht
        obtain ⟨ty, hty, -⟩ := am_tyR (Γ := Γ) ht.2
        exact ⟨ty, hty⟩
      | 4, _, ht => simp only [Bool.and_eq_true, beq_iff_eq] at ht; rw [ht.2.2]; exact ⟨_, rfl⟩
      | q + 5, h5, _ => omega
    obtain ⟨ty, hty⟩ := hty
    exact W.alen (n := zI N) C.1 C.2.1 (hW.arr hck ha hi) ((C.2.2.2.2.2.2.2.2.1.1.2 t _ hty).1 N _) (by rw [arrV_size]; rfl) rfl rfl hd (kk hoS.tl.i)) h
end AMR
