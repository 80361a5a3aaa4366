/-! Rules that read and write cells. -/
theorem am_Ext.of2 {ρ ρ' : Nat → Nat → Nat} {G G1 G' : GG} (h : G1.2 = G.2) (hx : am_Ext ρ G1 ρ' G') : am_Ext ρ G ρ' G' := ⟨fun c => by rw [← h]; exact hx.1 c, fun c i k => hx.2 c i (k.imp (fun z => by rw [h]; exact z) id)⟩
theorem am_okR.of2 {G G1 : GG} {c i : Nat} (h : G1.2 = G.2) (hx : am_okR G c i) : am_okR G1 c i := hx.imp (fun z => by rw [h]; exact z) id
theorem am_ok.of2 {G G1 : GG} {v : AV} (h : G1.2 = G.2) (hx : am_ok G v) : am_ok G1 v := by
  match v, hx with
  | .inl _, _ => trivial
  | .inr (.inl _), _ => trivial
  | .inr (.inr none), _ => trivial
  | .inr (.inr (some (c, i))), hx => exact am_okR.of2 h hx
theorem am_set_map {N k : Nat} {f g : Nat → Value} {v : Value} (h : ∀ j, j < N → g j = if j = k then v else f j) : ((List.range N).map f).set k v = (List.range N).map g := by
  apply List.ext_getElem
  · simp
  · intro j h1 h2
    have hj : j < N := by simpa using h2
    rw [List.getElem_set, List.getElem_map, List.getElem_map, List.getElem_range, h j hj]
    by_cases e : j = k
    · simp [e]
    · simp [e, Ne.symm e]
def am_aV (ρ : Nat → Nat → Nat) (I : II) (Lg : LJ) (R : RR) (G : GG) (c i k : Nat) : Value := match am_ck c with
  | (1, _, v, _) => .int (I v i k)
  | (2, _, v, _) => .int (I v i k)
  | (3, _, v, _) => .long (Lg v i k)
  | _ => va_rf ((am_ref R G c i k).map (fun p => ρ p.1 p.2))
/-- an array's cell -/
theorem am_E_arr {Γ : AMG} {ρ : Nat → Nat → Nat} {I : II} {Lg : LJ} {R : RR} {G : GG} {c i a n x y t : Nat} (hck : am_ck c = (a + 1, n, x, y, t)) : ∃ w : vp_A, am_E Γ ρ I Lg R G c i = .inl (Γ.cy t, w) ∧ w.1 = n ∧ ∀ cA, vp_cell cA w = arrV cA n (am_aV ρ I Lg R G c i) := by
  unfold am_E am_aV
  rw [hck]
  match a, hck with
  | 0, _ => exact ⟨_, rfl, rfl, fun _ => rfl⟩
  | 1, _ => exact ⟨_, rfl, rfl, fun _ => rfl⟩
  | 2, _ => exact ⟨_, rfl, rfl, fun _ => rfl⟩
  | _ + 3, _ => exact ⟨_, rfl, rfl, fun _ => rfl⟩
theorem am_ckNC {c a n x y t : Nat} (hck : am_ck c = (a + 1, n, x, y, t)) (ha : a < 5) : c < am_NC := by
  apply Decidable.byContradiction
  intro h
  have h1 : am_ck c = (9, 0, 0, 0, 0) := am_lk_out _ _ am_NC c (by decide +kernel) (Nat.not_lt.mp h)
  rw [h1] at hck
  have h2 : 9 = a + 1 := congrArg Prod.fst hck
  omega
theorem am_Wd.arr {Γ : AMG} {ρ : Nat → Nat → Nat} {I : II} {Lg : LJ} {R : RR} {G : GG} {H : Heap} {c i a n x y t : Nat} (hW : am_Wd Γ ρ I Lg R G H) (hck : am_ck c = (a + 1, n, x, y, t)) (ha : a < 5) (hi : i < G.2 c) : H[ρ c i]? = some (arrV (Γ.cy t) n (am_aV ρ I Lg R G c i)) := by
  obtain ⟨w, h1, -, h3⟩ := am_E_arr (Γ := Γ) (ρ := ρ) (I := I) (Lg := Lg) (R := R) (G := G) (i := i) hck
  have h := hW.1 c i (am_ckNC hck ha) hi
  rw [h1] at h
  have h4 : H[ρ c i]? = some (vp_cell (Γ.cy t) w) := h
  rw [h4, h3]
theorem am_at_arr {Γ : AMG} {ρ : Nat → Nat → Nat} {I : II} {Lg : LJ} {R : RR} {G : GG} {H : Heap} {c i a n x y t : Nat} (hck : am_ck c = (a + 1, n, x, y, t)) (h : H[ρ c i]? = some (arrV (Γ.cy t) n (am_aV ρ I Lg R G c i))) : va_at Γ.D vwCl (ρ c i, am_E Γ ρ I Lg R G c i) H := by
  obtain ⟨w, h1, -, h3⟩ := am_E_arr (Γ := Γ) (ρ := ρ) (I := I) (Lg := Lg) (R := R) (G := G) (i := i) hck
  rw [h1]
  show H[ρ c i]? = some (vp_cell (Γ.cy t) w)
  rw [h, h3]
theorem am_vin {j : Int32} {n : Nat} (h0 : 0 ≤ j.toInt) (h1 : j.toInt < n) : vp_in j n := vp_in_iff.mpr ⟨h0, h1⟩
theorem am_vlt {j : Int32} {n : Nat} (h0 : 0 ≤ j.toInt) (h1 : j.toInt < n) : j.toNatClampNeg < n := Nat.not_le.mp fun q => am_vin h0 h1 (Or.inr q)
theorem am_up3_ne {α : Type} {f : Nat → Nat → Nat → α} {o : Nat → Nat × Nat} {v c k i j : Nat} {x : α} (hv : o v = (c, k)) : ∀ v2 i2, ¬ ((o v2).1 = c ∧ i2 = i) → up3 f v i j x v2 i2 = f v2 i2 := by
  intro v2 i2 hne
  funext j2
  unfold up3
  rw [if_neg]
  rintro ⟨rfl, rfl, -⟩
  exact hne ⟨by rw [hv], rfl⟩
theorem am_up3_v {α : Type} {f : Nat → Nat → Nat → α} {o : Nat → Nat × Nat} {v v2 c k k2 i j : Nat} {x : α} (hv : o v = (c, k)) (hv2 : o v2 = (c, k2)) (hne : ¬ k2 = k) : up3 f v i j x v2 i j = f v2 i j := by
  unfold up3
  rw [if_neg]
  rintro ⟨rfl, -, -⟩
  rw [hv] at hv2
  exact hne (congrArg Prod.snd hv2).symm
section AMR
variable {Γ : AMG} {M : MD} {Q : QQ} {d k n pc pc' pc2 : Nat} {L L' : LL} {st st' : List AV} {I I' : II} {Lg Lg' : LJ} {R R' : RR} {G G' : GG}
/-- a step that reads the heap -/
theorem am_J.rd (hs : ∀ (ρ : Nat → Nat → Nat) (p : Program) (e : Env) (Rm : Room) (s : State) (m : MethodId) (args : Array Value) (below : List Frame) (meth : Method) (c : Code) (H : Heap) (locs : List Loc) (cells slots : Nat) (Z : State → Prop) (ls : Array Slot), am_Cx Γ M p s m args meth c → am_Wd Γ ρ I Lg R G H → am_okS G st →
      (am_okS G st' → W p Γ.l e Rm s m args below meth c H locs cells slots Z (F0 m pc' ls (st'.map (am_con ρ)))) → W p Γ.l e Rm s m args below meth c H locs cells slots Z (F0 m pc ls (st.map (am_con ρ))))
    (h : am_J Γ M Q d k n pc' L st' I Lg R G) : am_J Γ M Q d k n pc L st I Lg R G := by
  intro ρ p e Rm s m args below meth c H locs cells slots Z C h1 h2 h3 h4 hW hl hoL hoS ret ls hL
  exact hs ρ p e Rm s m args below meth c H locs cells slots Z ls C hW hoS (fun hoS' => h ρ p e Rm s m args below meth c H locs cells slots Z C h1 h2 h3 h4 hW hl hoL hoS' ret ls hL)
/-- a step that writes the heap -/
theorem am_J.wr (hs : ∀ (ρ : Nat → Nat → Nat) (p : Program) (e : Env) (Rm : Room) (s : State) (m : MethodId) (args : Array Value) (below : List Frame) (meth : Method) (c : Code) (H : Heap) (locs : List Loc) (cells slots : Nat) (Z : State → Prop) (ls : Array Slot), am_Cx Γ M p s m args meth c → am_Wd Γ ρ I Lg R G H → am_okS G st → (∀ q ∈ locs, Γ.HH.size ≤ q.base) →
      (∀ (H1 : Heap) (locs1 : List Loc), am_Wd Γ ρ I' Lg' R' G' H1 → (∀ q ∈ locs1, Γ.HH.size ≤ q.base) → W p Γ.l e Rm s m args below meth c H1 locs1 cells slots Z (F0 m pc' ls (st'.map (am_con ρ)))) → W p Γ.l e Rm s m args below meth c H locs cells slots Z (F0 m pc ls (st.map (am_con ρ))))
    (hG : G'.2 = G.2) (ho : am_okS G st → am_okS G st') (h : am_J Γ M Q d k n pc' L st' I' Lg' R' G') : am_J Γ M Q d k n pc L st I Lg R G := by
  intro ρ p e Rm s m args below meth c H locs cells slots Z C h1 h2 h3 h4 hW hl hoL hoS ret ls hL
  exact hs ρ p e Rm s m args below meth c H locs cells slots Z ls C hW hoS hl (fun H1 locs1 hW1 hl1 => h ρ p e Rm s m args below meth c H1 locs1 cells slots Z C h1 h2 h3 h4 hW1 hl1 ⟨hoL.1, fun v hv => (hoL.2 v hv).of2 hG⟩ (fun v hv => (ho hoS v hv).of2 hG) (fun ρ' r I2 Lg2 R2 G2 H2 locs2 cells2 slots2 pc2 ls2 a1 a2 a3 a4 a5 a6 a7 a8 => ret ρ' r I2 Lg2 R2 G2 H2 locs2 cells2 slots2 pc2 ls2 a1 (a2.of2 hG) a3 a4 a5 a6 a7 a8) ls hL)
theorem am_okR.lt {c i : Nat} (h : am_okR G c i) (hc : c < am_NC) : i < G.2 c := h.elim (fun z => z.2) (fun z => absurd hc (Nat.not_lt.mpr z))
theorem ar_getI {c i f idx : Nat} {r : vw_C} {v : Nat} {z : Nat × Nat} (hr : vwCl[c]? = some r) (hk : f < r.2.2) (hlink : Cond.fieldLink M.1 idx (r.2.1 f).1 (r.2.1 f).2.1 (r.2.1 f).2.2.1 ∈ am_BIG) (hs : am_slot c f = (0, v, z)) (hd : decode M.2.2.1 pc = .ok (.getfield idx, 3)) (h : am_J Γ M Q d k n (pc + 3) L (vI (I v i 0) :: st) I Lg R G) : am_J Γ M Q d k n pc L (vR c i :: st) I Lg R G :=
  am_J.rd (fun ρ p e Rm s m args below meth c0 H locs cells slots Z ls C hW hoS kk => am_getW C hW hr (hoS.hd.lt (am_lt13 (am_ckN c r hr).2)) hk hlink hd (by
    have e1 : am_val ρ I Lg R G c i f = (.int (I v i 0)) := by unfold am_val; rw [hs]; rfl
    rw [e1]
    exact kk (hoS.tl.i))) h
theorem ar_getZ {c i f idx : Nat} {r : vw_C} {v : Nat} {z : Nat × Nat} (hr : vwCl[c]? = some r) (hk : f < r.2.2) (hlink : Cond.fieldLink M.1 idx (r.2.1 f).1 (r.2.1 f).2.1 (r.2.1 f).2.2.1 ∈ am_BIG) (hs : am_slot c f = (1, v, z)) (hd : decode M.2.2.1 pc = .ok (.getfield idx, 3)) (h : am_J Γ M Q d k n (pc + 3) L (vI (I v i 0) :: st) I Lg R G) : am_J Γ M Q d k n pc L (vR c i :: st) I Lg R G :=
  am_J.rd (fun ρ p e Rm s m args below meth c0 H locs cells slots Z ls C hW hoS kk => am_getW C hW hr (hoS.hd.lt (am_lt13 (am_ckN c r hr).2)) hk hlink hd (by
    have e1 : am_val ρ I Lg R G c i f = (.int (I v i 0)) := by unfold am_val; rw [hs]; rfl
    rw [e1]
    exact kk (hoS.tl.i))) h
theorem ar_getJ {c i f idx : Nat} {r : vw_C} {v : Nat} {z : Nat × Nat} (hr : vwCl[c]? = some r) (hk : f < r.2.2) (hlink : Cond.fieldLink M.1 idx (r.2.1 f).1 (r.2.1 f).2.1 (r.2.1 f).2.2.1 ∈ am_BIG) (hs : am_slot c f = (2, v, z)) (hd : decode M.2.2.1 pc = .ok (.getfield idx, 3)) (h : am_J Γ M Q d k n (pc + 3) L (vL (Lg v i 0) :: st) I Lg R G) : am_J Γ M Q d k n pc L (vR c i :: st) I Lg R G :=
  am_J.rd (fun ρ p e Rm s m args below meth c0 H locs cells slots Z ls C hW hoS kk => am_getW C hW hr (hoS.hd.lt (am_lt13 (am_ckN c r hr).2)) hk hlink hd (by
    have e1 : am_val ρ I Lg R G c i f = (.long (Lg v i 0)) := by unfold am_val; rw [hs]; rfl
    rw [e1]
    exact kk (hoS.tl.l))) h
theorem ar_getS {c i f idx : Nat} {r : vw_C} {t b z : Nat} (hr : vwCl[c]? = some r) (hk : f < r.2.2) (hlink : Cond.fieldLink M.1 idx (r.2.1 f).1 (r.2.1 f).2.1 (r.2.1 f).2.2.1 ∈ am_BIG) (hs : am_slot c f = (3, t, b, z)) (hin : G.1 c i f = true) (hd : decode M.2.2.1 pc = .ok (.getfield idx, 3)) (h : am_J Γ M Q d k n (pc + 3) L (vR t (am_sidx b z i) :: st) I Lg R G) : am_J Γ M Q d k n pc L (vR c i :: st) I Lg R G :=
  am_J.rd (fun ρ p e Rm s m args below meth c0 H locs cells slots Z ls C hW hoS kk => by
    obtain ⟨hck, h13⟩ := am_ckN c r hr
    have hi := hoS.hd.lt (am_lt13 h13)
    have e2 : am_ref R G c i f = some (t, am_sidx b z i) := by unfold am_ref; rw [hck]; simp only [hs, hin]; rfl
    refine am_getW C hW hr hi hk hlink hd ?_
    have e1 : am_val ρ I Lg R G c i f = .ref (ρ t (am_sidx b z i)) := by unfold am_val; simp only [hs, e2]; rfl
    rw [e1]
    exact kk (am_okS.cons (v := vR t (am_sidx b z i)) (Or.inl (hW.2.2.2.2.2.2.2.1 c i f _ _ (am_lt13 h13) hi e2)) hoS.tl)) h
theorem ar_getD {c i f idx : Nat} {r : vw_C} {v t z : Nat} (hr : vwCl[c]? = some r) (hk : f < r.2.2) (hlink : Cond.fieldLink M.1 idx (r.2.1 f).1 (r.2.1 f).2.1 (r.2.1 f).2.2.1 ∈ am_BIG) (hs : am_slot c f = (4, v, t, z)) (hd : decode M.2.2.1 pc = .ok (.getfield idx, 3)) (h1 : R v i 0 = none → am_J Γ M Q d k n (pc + 3) L (vN :: st) I Lg R G) (h2 : ∀ b, R v i 0 = some b → am_J Γ M Q d k n (pc + 3) L (vR t b :: st) I Lg R G) : am_J Γ M Q d k n pc L (vR c i :: st) I Lg R G := by
  cases hR : R v i 0 with
  | none =>
    refine am_J.rd (fun ρ p e Rm s m args below meth c0 H locs cells slots Z ls C hW hoS kk => ?_) (h1 hR)
    obtain ⟨hck, h13⟩ := am_ckN c r hr
    have hi := hoS.hd.lt (am_lt13 h13)
    have e2 : am_ref R G c i f = none := by unfold am_ref; rw [hck]; simp only [hs, hR]; rfl
    refine am_getW C hW hr hi hk hlink hd ?_
    have e1 : am_val ρ I Lg R G c i f = .null := by unfold am_val; simp only [hs, e2]; rfl
    rw [e1]
    exact kk (am_okS.cons (v := vN) trivial hoS.tl)
  | some b =>
    refine am_J.rd (fun ρ p e Rm s m args below meth c0 H locs cells slots Z ls C hW hoS kk => ?_) (h2 b hR)
    obtain ⟨hck, h13⟩ := am_ckN c r hr
    have hi := hoS.hd.lt (am_lt13 h13)
    have e2 : am_ref R G c i f = some (t, b) := by unfold am_ref; rw [hck]; simp only [hs, hR]; rfl
    refine am_getW C hW hr hi hk hlink hd ?_
    have e1 : am_val ρ I Lg R G c i f = .ref (ρ t b) := by unfold am_val; simp only [hs, e2]; rfl
    rw [e1]
    exact kk (am_okS.cons (v := vR t b) (Or.inl (hW.2.2.2.2.2.2.2.1 c i f _ _ (am_lt13 h13) hi e2)) hoS.tl)
theorem ar_putI {c i f idx : Nat} {r : vw_C} {v : Nat} {x : Int32} {z : Nat × Nat} (hr : vwCl[c]? = some r) (hk : f < r.2.2) (hlink : Cond.fieldLink M.1 idx (r.2.1 f).1 (r.2.1 f).2.1 (r.2.1 f).2.2.1 ∈ am_BIG) (hfin : (r.2.1 f).2.2.2 = false ∨ (r.2.1 f).2.2.2 = true ∧ M.2.1.name = "<init>" ∧ (r.2.1 f).1 = M.1) (hs : am_slot c f = (0, v, z)) (hd : decode M.2.2.1 pc = .ok (.putfield idx, 3)) (h : am_J Γ M Q d k n (pc + 3) L st (up3 I v i 0 x) (Lg) R G) : am_J Γ M Q d k n pc L (vI x :: vR c i :: st) I Lg R G := by
  refine am_J.wr (fun ρ p e Rm s m args below meth c0 H locs cells slots Z ls C hW hoS hl kk => ?_) rfl (fun b => b.tl.tl) h
  obtain ⟨hck, h13⟩ := am_ckN c r hr
  have hi := hoS.tl.hd.lt (am_lt13 h13)
  obtain ⟨-, -, -, hsl⟩ := am_chk0 hck (am_lt13 h13)
  have hv : am_oI v = (c, f) := by have := hsl f hk; rw [hs] at this; exact this
  have ety : am_ty c f = .int := by
    have h9 := am_tagOk_all c h13 f (by rw [hck]; exact hk)
    unfold am_tagOk at h9
    rw [hs] at h9
    generalize am_ty c f = ty at h9
    cases ty <;> first | rfl | cases h9
  refine am_putW (v := .int x) C hW hl hr hi hk hlink hfin (by rw [ety]; rfl) (by rw [ety]; rfl) hd fun H1 locs1 z1 o1 at1 l1 => kk H1 locs1 (hW.upd (am_lt13 h13) hi z1 o1 ?_ (am_up3_ne hv) (fun v2 i2 hne => rfl) (fun _ _ _ => rfl) (fun _ _ _ => rfl) rfl (fun k2 c2 i2 _ hk2 => hW.2.2.2.2.2.2.2.1 c i k2 c2 i2 (am_lt13 h13) hi hk2)) l1
  have e9 : am_E Γ ρ (up3 I v i 0 x) (Lg) R G c i = .inr (c, (List.range r.2.2).map (am_val ρ (up3 I v i 0 x) (Lg) R G c i)) := by unfold am_E; rw [hck]; rfl
  rw [e9, ← am_set_map (k := f) (v := .int x) (f := am_val ρ I Lg R G c i) (fun j hj => ?_)]
  · exact at1
  · have hj9 := hsl j hj
    unfold am_val
    rcases hsj : am_slot c j with ⟨a9, v9, t9, b9⟩
    rw [hsj] at hj9
    by_cases ej : j = f
    · subst ej
      rw [hs] at hsj
      cases hsj
      simp [up3]
    · rw [if_neg ej]
      match a9, hj9 with
      | 0, hj9 => simp only [show up3 I v i 0 x v9 i 0 = I v9 i 0 from am_up3_v hv hj9 ej]
      | 1, hj9 => simp only [show up3 I v i 0 x v9 i 0 = I v9 i 0 from am_up3_v hv hj9 ej]
      | 2, hj9 => simp only []
      | 3, _ => rfl
      | 4, _ => rfl
      | _ + 5, hj9 => exact hj9.elim
theorem ar_putZ {c i f idx : Nat} {r : vw_C} {v : Nat} {x : Int32} {z : Nat × Nat} (hr : vwCl[c]? = some r) (hk : f < r.2.2) (hlink : Cond.fieldLink M.1 idx (r.2.1 f).1 (r.2.1 f).2.1 (r.2.1 f).2.2.1 ∈ am_BIG) (hfin : (r.2.1 f).2.2.2 = false ∨ (r.2.1 f).2.2.2 = true ∧ M.2.1.name = "<init>" ∧ (r.2.1 f).1 = M.1) (hs : am_slot c f = (1, v, z)) (hx : x = zI 0 ∨ x = zI 1) (hd : decode M.2.2.1 pc = .ok (.putfield idx, 3)) (h : am_J Γ M Q d k n (pc + 3) L st (up3 I v i 0 x) (Lg) R G) : am_J Γ M Q d k n pc L (vI x :: vR c i :: st) I Lg R G := by
  refine am_J.wr (fun ρ p e Rm s m args below meth c0 H locs cells slots Z ls C hW hoS hl kk => ?_) rfl (fun b => b.tl.tl) h
  obtain ⟨hck, h13⟩ := am_ckN c r hr
  have hi := hoS.tl.hd.lt (am_lt13 h13)
  obtain ⟨-, -, -, hsl⟩ := am_chk0 hck (am_lt13 h13)
  have hv : am_oI v = (c, f) := by have := hsl f hk; rw [hs] at this; exact this
  have ety : am_ty c f = .boolean := by
    have h9 := am_tagOk_all c h13 f (by rw [hck]; exact hk)
    unfold am_tagOk at h9
    rw [hs] at h9
    generalize am_ty c f = ty at h9
    cases ty <;> first | rfl | cases h9
  refine am_putW (v := .int x) C hW hl hr hi hk hlink hfin (by rw [ety]; rcases hx with rfl | rfl <;> rfl) (by rw [ety]; rcases hx with rfl | rfl <;> rfl) hd fun H1 locs1 z1 o1 at1 l1 => kk H1 locs1 (hW.upd (am_lt13 h13) hi z1 o1 ?_ (am_up3_ne hv) (fun v2 i2 hne => rfl) (fun _ _ _ => rfl) (fun _ _ _ => rfl) rfl (fun k2 c2 i2 _ hk2 => hW.2.2.2.2.2.2.2.1 c i k2 c2 i2 (am_lt13 h13) hi hk2)) l1
  have e9 : am_E Γ ρ (up3 I v i 0 x) (Lg) R G c i = .inr (c, (List.range r.2.2).map (am_val ρ (up3 I v i 0 x) (Lg) R G c i)) := by unfold am_E; rw [hck]; rfl
  rw [e9, ← am_set_map (k := f) (v := .int x) (f := am_val ρ I Lg R G c i) (fun j hj => ?_)]
  · exact at1
  · have hj9 := hsl j hj
    unfold am_val
    rcases hsj : am_slot c j with ⟨a9, v9, t9, b9⟩
    rw [hsj] at hj9
    by_cases ej : j = f
    · subst ej
      rw [hs] at hsj
      cases hsj
      simp [up3]
    · rw [if_neg ej]
      match a9, hj9 with
      | 0, hj9 => simp only [show up3 I v i 0 x v9 i 0 = I v9 i 0 from am_up3_v hv hj9 ej]
      | 1, hj9 => simp only [show up3 I v i 0 x v9 i 0 = I v9 i 0 from am_up3_v hv hj9 ej]
      | 2, hj9 => simp only []
      | 3, _ => rfl
      | 4, _ => rfl
      | _ + 5, hj9 => exact hj9.elim
theorem ar_putJ {c i f idx : Nat} {r : vw_C} {v : Nat} {x : Int64} {z : Nat × Nat} (hr : vwCl[c]? = some r) (hk : f < r.2.2) (hlink : Cond.fieldLink M.1 idx (r.2.1 f).1 (r.2.1 f).2.1 (r.2.1 f).2.2.1 ∈ am_BIG) (hfin : (r.2.1 f).2.2.2 = false ∨ (r.2.1 f).2.2.2 = true ∧ M.2.1.name = "<init>" ∧ (r.2.1 f).1 = M.1) (hs : am_slot c f = (2, v, z)) (hd : decode M.2.2.1 pc = .ok (.putfield idx, 3)) (h : am_J Γ M Q d k n (pc + 3) L st (I) (up3 Lg v i 0 x) R G) : am_J Γ M Q d k n pc L (vL x :: vR c i :: st) I Lg R G := by
  refine am_J.wr (fun ρ p e Rm s m args below meth c0 H locs cells slots Z ls C hW hoS hl kk => ?_) rfl (fun b => b.tl.tl) h
  obtain ⟨hck, h13⟩ := am_ckN c r hr
  have hi := hoS.tl.hd.lt (am_lt13 h13)
  obtain ⟨-, -, -, hsl⟩ := am_chk0 hck (am_lt13 h13)
  have hv : am_oL v = (c, f) := by have := hsl f hk; rw [hs] at this; exact this
  have ety : am_ty c f = .long := by
    have h9 := am_tagOk_all c h13 f (by rw [hck]; exact hk)
    unfold am_tagOk at h9
    rw [hs] at h9
    generalize am_ty c f = ty at h9
    cases ty <;> first | rfl | cases h9
  refine am_putW (v := .long x) C hW hl hr hi hk hlink hfin (by rw [ety]; rfl) (by rw [ety]; rfl) hd fun H1 locs1 z1 o1 at1 l1 => kk H1 locs1 (hW.upd (am_lt13 h13) hi z1 o1 ?_ (fun v2 i2 hne => rfl) (am_up3_ne hv) (fun _ _ _ => rfl) (fun _ _ _ => rfl) rfl (fun k2 c2 i2 _ hk2 => hW.2.2.2.2.2.2.2.1 c i k2 c2 i2 (am_lt13 h13) hi hk2)) l1
  have e9 : am_E Γ ρ (I) (up3 Lg v i 0 x) R G c i = .inr (c, (List.range r.2.2).map (am_val ρ (I) (up3 Lg v i 0 x) R G c i)) := by unfold am_E; rw [hck]; rfl
  rw [e9, ← am_set_map (k := f) (v := .long x) (f := am_val ρ I Lg R G c i) (fun j hj => ?_)]
  · exact at1
  · have hj9 := hsl j hj
    unfold am_val
    rcases hsj : am_slot c j with ⟨a9, v9, t9, b9⟩
    rw [hsj] at hj9
    by_cases ej : j = f
    · subst ej
      rw [hs] at hsj
      cases hsj
      simp [up3]
    · rw [if_neg ej]
      match a9, hj9 with
      | 0, hj9 => simp only []
      | 1, hj9 => simp only []
      | 2, hj9 => simp only [show up3 Lg v i 0 x v9 i 0 = Lg v9 i 0 from am_up3_v hv hj9 ej]
      | 3, _ => rfl
      | 4, _ => rfl
      | _ + 5, hj9 => exact hj9.elim
end AMR
