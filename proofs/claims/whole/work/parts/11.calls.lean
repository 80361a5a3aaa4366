/-! Calls. -/
def am_cat : AV → Nat
  | .inr (.inl _) => 2
  | _ => 1
theorem am_cat_con (ρ : Nat → Nat → Nat) (v : AV) : (am_con ρ v).category = am_cat v := by
  match v with
  | .inl _ => rfl
  | .inr (.inl _) => rfl
  | .inr (.inr none) => rfl
  | .inr (.inr (some (a, b))) => rfl
def am_cats (st : List AV) : Nat := match st with
  | [] => 0
  | v :: r => am_cat v + am_cats r
theorem am_cats_con (ρ : Nat → Nat → Nat) : ∀ st : List AV, ((st.map (am_con ρ)).map fun v => v.category).sum = am_cats st
  | [] => rfl
  | v :: r => by
    rw [List.map_cons, List.map_cons, List.sum_cons, am_cats_con ρ r, am_cat_con]
    rfl
/-- a method that can be called -/
def am_Mok (M : MD) : Prop := Cond.code M.2.1 M.2.2.1 M.2.2.2.1 M.2.2.2.2.1 ∈ am_BIG ∧ M.2.1.cls = M.1 ∧ M.2.1.cls ≠ "java/lang/invoke/MethodHandle" ∧ M.2.1.cls ≠ "java/lang/invoke/VarHandle" ∧ (parseMethodDescriptor M.2.1.desc).map (fun d => d.parameters.length) = some M.2.2.2.2.2 ∧ M.2.2.2.1 ≤ 29
theorem am_BIG_good {ws : List Cond} (h : ∀ w ∈ ws, w ∈ am_BIG) : GoodIn am_BIG ws := fun w hw => ⟨h w hw, good_of_word (List.mem_filter.mp (h w hw)).2⟩
theorem am_ws_in {M : MD} (h : am_Mok M) : ∀ w ∈ am_ws M, w ∈ am_BIG := fun w hw => (List.mem_cons.mp hw).elim (fun e => by rw [e]; exact h.1) id
theorem am_Pc_blind {Γ : AMG} {ρ : Nat → Nat → Nat} {args : List AV} {I : II} {Lg : LJ} {R : RR} {G : GG} (hg : am_GK Γ) : FrameBlind (am_Pc Γ ρ args I Lg R G) := fun a U g mk q => ⟨q.1, ⟨va_K.moved (u := U) (U := U.calling g mk a) (Vm.Alike.refl U.vm) q.2.1.1, hg.2 U (U.calling g mk a) q.2.1.2 rfl⟩, q.2.2⟩
theorem am_K.warm {Γ : AMG} {s U : State} (hg : am_GK Γ) (h : am_K Γ s) (hW : s.WarmedH U.vm) : am_K Γ U := ⟨va_K.moved hW.alike h.1, hg.1 s U h.2 hW⟩
section AMR
variable {Γ : AMG} {M M2 : MD} {Q : QQ} {d k n k2 n2 pc pc' pc2 : Nat} {L L' : LL} {st st' As rest : List AV} {I I' : II} {Lg Lg' : LJ} {R R' : RR} {G G' : GG}
/-- a call that is run: what is behind it -/
theorem am_J.call {ρ : Nat → Nat → Nat} {p : Program} {e : Env} {Rm : Room} {s : State} {m : MethodId} {args a : Array Value} {below : List Frame} {meth : Method} {c : Code} {H : Heap} {locs : List Loc} {cells slots : Nat} {Z : State → Prop} {ls : Array Slot} {st0 : List Value}
    (run : va_Run p Γ.l e Rm s m args below meth c H locs cells slots k2 n2 (F0 m pc ls st0) (rest.map (am_con ρ)) (am_Qc Γ (fun r I' Lg' R' G' => am_J Γ M Q d k n (pc + 3) L (r.toList ++ rest) I' Lg' R' G') ρ G a) (fun q => Γ.HH.size ≤ q))
    (C : am_Cx Γ M p s m args meth c) (h1 : d ≤ Rm.frames) (h2 : am_LOC * d ≤ Rm.locals) (h3 : cells + (k2 + k) ≤ Rm.cells) (h4 : slots + (n2 + n) ≤ Rm.slots) (hl : ∀ q ∈ locs, Γ.HH.size ≤ q.base) (hoL : am_okL M.2.2.2.1 G L) (hoR : am_okS G rest)
    (ret : ∀ (ρ' : Nat → Nat → Nat) (r : Option AV) (I' : II) (Lg' : LJ) (R' : RR) (G' : GG) (H' : Heap) (locs' : List Loc) (cells' slots' pc' : Nat) (ls' : Array Slot), am_Wd Γ ρ' I' Lg' R' G' H' → am_Ext ρ G ρ' G' → (∀ v ∈ r, am_ok G' v) → (∀ q ∈ locs', Γ.HH.size ≤ q.base) → cells' ≤ cells + (k2 + k) → slots' ≤ slots + (n2 + n) → Q r I' Lg' R' G' → am_At M pc' ls' r →
      W p Γ.l e Rm s m args below meth c H' locs' cells' slots' Z (F0 m pc' ls' (r.toList.map (am_con ρ'))))
    (hL : am_hL ρ ls L) : W p Γ.l e Rm s m args below meth c H locs cells slots Z (F0 m pc ls st0) := by
  intro T hT X
  obtain ⟨v, st₀, t, T', L1, h0, X', hL1, e1, e2, ⟨ρ', r, I', Lg', R', G', hv, hW', hx, hr, hq⟩, stp⟩ := run T hT X
  have hv2 : v = r.map (am_con ρ') := Outcome.returned.inj hv
  subst hv2
  have hcon : ∀ w, am_ok G w → am_con ρ' w = am_con ρ w := by
    intro w hw
    match w, hw with
    | .inl _, _ => rfl
    | .inr (.inl _), _ => rfl
    | .inr (.inr none), _ => rfl
    | .inr (.inr (some (a, b))), hw => exact congrArg Value.ref (hx.2 a b hw)
  have hokx : ∀ w, am_ok G w → am_ok G' w := by
    intro w hw
    match w, hw with
    | .inl _, _ => trivial
    | .inr (.inl _), _ => trivial
    | .inr (.inr none), _ => trivial
    | .inr (.inr (some (a, b))), hw => exact am_okR.ext hx hw
  rw [← e1] at hW'
  obtain ⟨t2, a1, b1⟩ := hq ρ' p e Rm s m args below meth c T'.heap (locs ++ L1) (cells + k2) (slots + n2) Z C h1 h2 (by omega) (by omega) hW' (fun q hq => (List.mem_append.mp hq).elim (hl q) (hL1 q)) ⟨hoL.1, fun w hw => hokx w (hoL.2 w hw)⟩ (fun w hw => (List.mem_append.mp hw).elim (fun z => hr w (Option.mem_toList.mp z)) (fun z => hokx w (hoR w z)))
    (fun ρ2 r2 I2 Lg2 R2 G2 H2 locs2 cells2 slots2 pc2 ls2 b1 b2 b3 b4 b5 b6 b7 b8 => ret ρ2 r2 I2 Lg2 R2 G2 H2 locs2 cells2 slots2 pc2 ls2 b1 (hx.tr b2) b3 b4 (by omega) (by omega) b7 b8) ls ⟨hL.1, hL.2.1, fun j w hw => by rw [hcon w (hoL.at hw)]; exact hL.2.2 j w hw⟩ T' rfl X'
  refine ⟨t2, stp t2 ?_, b1⟩
  have e9 : (r.toList ++ rest).map (am_con ρ') = (r.map (am_con ρ')).toList ++ rest.map (am_con ρ) := by
    rw [List.map_append]
    congr 1
    · cases r <;> rfl
    · exact List.map_congr_left (fun w hw => hcon w (hoR w hw))
  rw [e9] at a1
  exact a1
theorem ar_invV {c i idx : Nat} {r : vw_C} (hst : st = As.reverse ++ vR c i :: rest) (hr : vwCl[c]? = some r) (hrM : r.1 = M2.1) (hok : am_Mok M2) (h1 : Cond.methodLink M.1 idx M2.2.1 ∈ am_BIG) (h2 : Cond.instanceMethod M2.2.1 ∈ am_BIG) (h3 : Cond.selects M2.1 M2.2.1 M2.2.1 ∈ am_BIG) (h4 : Cond.initialized M2.1 ∈ am_BIG)
    (hlen : As.length = M2.2.2.2.2.2) (hcat : am_cats rest ≤ 8) (hd : decode M.2.2.1 pc = .ok (.invokevirtual idx, 3)) (h : am_Sp Γ d k2 n2 M2 (vR c i :: As) I Lg R G (fun r I' Lg' R' G' => am_J Γ M Q (d + 1) k n (pc + 3) L (r.toList ++ rest) I' Lg' R' G')) : am_J Γ M Q (d + 1) (k2 + k) (n2 + n) pc L st I Lg R G := by
  subst hst
  intro ρ p e Rm s m args below meth c0 H locs cells slots Z C g1 g2 g3 g4 hW hl hoL hoS ret ls hL
  have hrecv : am_ok G (vR c i) := hoS (vR c i) (by simp)
  have hargs : am_okS G (vR c i :: As) := fun v hv => (List.mem_cons.mp hv).elim (fun e => by rw [e]; exact hrecv) (fun z => hoS v (by simp [z]))
  have hrest : am_okS G rest := fun v hv => hoS v (by simp [hv])
  have hi : i < G.2 c := am_okR.lt hrecv (am_lt13 (am_ckN c r hr).2)
  have hGK : am_GK Γ := C.2.2.2.2.2.2.2.2.2
  have hK : am_K Γ s := C.2.2.2.2.2.2.2.2.1
  have hts := C.2.2.2.2.2.2.1
  have hM := h ρ hGK hargs
  have hgood : GoodIn am_BIG (wsV M.1 idx M2.1 M2.2.1 (am_ws M2)) := am_BIG_good (fun w hw => by
    rcases List.mem_append.mp hw with hw | hw
    · simp only [List.mem_cons, List.not_mem_nil, or_false] at hw
      rcases hw with rfl | rfl | rfl | rfl
      · exact h1
      · exact h2
      · exact h3
      · exact h4
    · exact am_ws_in hok w hw)
  have hl29 := hok.2.2.2.2.2
  refine am_J.call (k2 := k2) (n2 := n2) (rest := rest) (st0 := (As.reverse ++ vR c i :: rest).map (am_con ρ)) (va_runV (C := M2.1) (As := As.map (am_con ρ)) (rest := rest.map (am_con ρ)) ⟨C.1, C.2.1, C.2.2.1, C.2.2.2.2.2.1, hts⟩ hM (cwV (ws' := am_BIG) M2.2.2.2.2.2 hts hgood rfl rfl rfl ⟨hok.2.1, hok.2.2.1, hok.2.2.2.1, hok.2.2.2.2.1⟩ ⟨by show d + 1 ≤ _; exact g1, by show 8 + (M2.2.2.2.1 + 11) + am_LOC * d ≤ _; have e9 : am_LOC * (d + 1) = am_LOC * d + 48 := rfl; omega⟩) ⟨am_Pc_blind hGK, ?_, fun U hU hWm => ⟨rfl, hK.warm hGK hWm, by rw [hU]; exact hW⟩⟩ rfl (by simpa using hlen) (hL.1.trans hoL.1) (by show List.map _ _ = _; simp [am_con]) (lv_room (by rw [am_cats_con]; exact hcat)) hd ⟨by omega, by omega⟩) C g1 g2 g3 g4 hl hoL hrest ret hL
  obtain ⟨q', z1, cell, z2, z3, z4, -⟩ := hW.obj hr hi
  exact ⟨cell, z2, by rw [z4]; rfl, by rw [z3, ← hrM]; exact (hK.1.1 c r hr).2.1⟩
theorem ar_invS {idx : Nat} (hst : st = As.reverse ++ rest) (hok : am_Mok M2) (h1 : Cond.methodLink M.1 idx M2.2.1 ∈ am_BIG) (h2 : Cond.static M2.2.1 ∈ am_BIG) (h4 : Cond.initialized M2.1 ∈ am_BIG)
    (hlen : As.length = M2.2.2.2.2.2) (hcat : am_cats rest ≤ 8) (hd : decode M.2.2.1 pc = .ok (.invokestatic idx, 3)) (h : am_Sp Γ d k2 n2 M2 As I Lg R G (fun r I' Lg' R' G' => am_J Γ M Q (d + 1) k n (pc + 3) L (r.toList ++ rest) I' Lg' R' G')) : am_J Γ M Q (d + 1) (k2 + k) (n2 + n) pc L st I Lg R G := by
  subst hst
  intro ρ p e Rm s m args below meth c0 H locs cells slots Z C g1 g2 g3 g4 hW hl hoL hoS ret ls hL
  have hargs : am_okS G As := fun v hv => hoS v (by simp [hv])
  have hrest : am_okS G rest := fun v hv => hoS v (by simp [hv])
  have hGK : am_GK Γ := C.2.2.2.2.2.2.2.2.2
  have hK : am_K Γ s := C.2.2.2.2.2.2.2.2.1
  have hts := C.2.2.2.2.2.2.1
  have hM := h ρ hGK hargs
  have hl29 := hok.2.2.2.2.2
  exact am_J.call (k2 := k2) (n2 := n2) (rest := rest) (st0 := (As.reverse ++ rest).map (am_con ρ)) (va_runS (As := As.map (am_con ρ)) (rest := rest.map (am_con ρ)) ⟨C.1, C.2.1, C.2.2.1, C.2.2.2.2.2.1, hts⟩ hM ⟨callB_of (ws' := am_BIG) M2.2.2.2.2.2 hts (am_BIG_good (am_ws_in hok)) rfl rfl rfl (by rw [hok.2.1]; exact hts _ h4) (hts _ h1) ⟨hok.2.2.1, hok.2.2.2.1, hok.2.2.2.2.1⟩ ⟨by show d + 1 ≤ _; exact g1, by show 8 + (M2.2.2.2.1 + 11) + am_LOC * d ≤ _; have e9 : am_LOC * (d + 1) = am_LOC * d + 48 := rfl; omega⟩, hts _ h2⟩ ⟨am_Pc_blind hGK, fun U hU hWm => ⟨rfl, hK.warm hGK hWm, by rw [hU]; exact hW⟩⟩ rfl (by simpa using hlen) (hL.1.trans hoL.1) (by show List.map _ _ = _; simp) (lv_room (by rw [am_cats_con]; exact hcat)) hd ⟨by omega, by omega⟩) C g1 g2 g3 g4 hl hoL hrest ret hL
theorem ar_invI {c i idx : Nat} (hst : st = As.reverse ++ vR c i :: rest) (hok : am_Mok M2) (hni : M2.2.1.name = "<init>") (hrt : M2.2.2.2.2.1 = none) (h1 : Cond.methodLink M.1 idx M2.2.1 ∈ am_BIG) (h2 : Cond.instanceMethod M2.2.1 ∈ am_BIG) (h4 : Cond.initialized M2.1 ∈ am_BIG)
    (hlen : As.length = M2.2.2.2.2.2) (hcat : am_cats rest ≤ 8) (hd : decode M.2.2.1 pc = .ok (.invokespecial idx, 3)) (h : am_Sp Γ d k2 n2 M2 (vR c i :: As) I Lg R G (fun r I' Lg' R' G' => am_J Γ M Q (d + 1) k n (pc + 3) L (r.toList ++ rest) I' Lg' R' G')) : am_J Γ M Q (d + 1) (k2 + k) (n2 + n) pc L st I Lg R G := by
  subst hst
  intro ρ p e Rm s m args below meth c0 H locs cells slots Z C g1 g2 g3 g4 hW hl hoL hoS ret ls hL
  have hargs : am_okS G (vR c i :: As) := fun v hv => (List.mem_cons.mp hv).elim (fun e => by rw [e]; exact hoS (vR c i) (by simp)) (fun z => hoS v (by simp [z]))
  have hrest : am_okS G rest := fun v hv => hoS v (by simp [hv])
  have hGK : am_GK Γ := C.2.2.2.2.2.2.2.2.2
  have hK : am_K Γ s := C.2.2.2.2.2.2.2.2.1
  have hts := C.2.2.2.2.2.2.1
  have hM := h ρ hGK hargs
  have hl29 := hok.2.2.2.2.2
  obtain ⟨own2, y2, by2, mx2, rt2, na2⟩ := M2
  dsimp only at hrt
  subst hrt
  exact am_J.call (k2 := k2) (n2 := n2) (rest := rest) (st0 := (As.reverse ++ vR c i :: rest).map (am_con ρ)) (va_runI (As := As.map (am_con ρ)) (rest := rest.map (am_con ρ)) ⟨C.1, C.2.1, C.2.2.1, C.2.2.2.2.2.1, hts⟩ hM (cwI (ws' := am_BIG) na2 hts (am_BIG_good (am_ws_in hok)) rfl rfl rfl (by rw [hok.2.1]; exact hts _ h4) (hts _ h1) (hts _ h2) hni ⟨hok.2.2.1, hok.2.2.2.1, hok.2.2.2.2.1⟩ ⟨by show d + 1 ≤ _; exact g1, by show 8 + (mx2 + 11) + am_LOC * d ≤ _; have e9 : am_LOC * (d + 1) = am_LOC * d + 48 := rfl; dsimp only at hl29; omega⟩) ⟨am_Pc_blind hGK, fun U hU hWm => ⟨rfl, hK.warm hGK hWm, by rw [hU]; exact hW⟩⟩ rfl (by simpa using hlen) (hL.1.trans hoL.1) (by show List.map _ _ = _; simp [am_con]) (lv_room (by rw [am_cats_con]; exact hcat)) hd ⟨by omega, by omega⟩) C g1 g2 g3 g4 hl hoL hrest ret hL
/-- a private constructor of a nest mate -/
theorem ar_invN {c i idx : Nat} {host : String} (hst : st = As.reverse ++ vR c i :: rest) (hok : am_Mok M2) (hni : M2.2.1.name = "<init>") (hrt : M2.2.2.2.2.1 = none) (h1 : ∀ U, Γ.KX U → va_Nw (.methodLinkNest M.1 idx M2.2.1 host) U) (h2 : Cond.instanceMethod M2.2.1 ∈ am_BIG) (h4 : Cond.initialized M2.1 ∈ am_BIG)
    (hlen : As.length = M2.2.2.2.2.2) (hcat : am_cats rest ≤ 8) (hd : decode M.2.2.1 pc = .ok (.invokespecial idx, 3)) (h : am_Sp Γ d k2 n2 M2 (vR c i :: As) I Lg R G (fun r I' Lg' R' G' => am_J Γ M Q (d + 1) k n (pc + 3) L (r.toList ++ rest) I' Lg' R' G')) : am_J Γ M Q (d + 1) (k2 + k) (n2 + n) pc L st I Lg R G := by
  subst hst
  intro ρ p e Rm s m args below meth c0 H locs cells slots Z C g1 g2 g3 g4 hW hl hoL hoS ret ls hL
  have hargs : am_okS G (vR c i :: As) := fun v hv => (List.mem_cons.mp hv).elim (fun e => by rw [e]; exact hoS (vR c i) (by simp)) (fun z => hoS v (by simp [z]))
  have hrest : am_okS G rest := fun v hv => hoS v (by simp [hv])
  have hGK : am_GK Γ := C.2.2.2.2.2.2.2.2.2
  have hK : am_K Γ s := C.2.2.2.2.2.2.2.2.1
  have hts := C.2.2.2.2.2.2.1
  have hM := h ρ hGK hargs
  have hl29 := hok.2.2.2.2.2
  obtain ⟨own2, y2, by2, mx2, rt2, na2⟩ := M2
  dsimp only at hrt
  subst hrt
  exact am_J.call (k2 := k2) (n2 := n2) (rest := rest) (st0 := (As.reverse ++ vR c i :: rest).map (am_con ρ)) (va_runIN (As := As.map (am_con ρ)) (rest := rest.map (am_con ρ)) (Ts := am_BIG) ⟨C.1, C.2.1, C.2.2.1, C.2.2.2.2.2.1, hts⟩ hM ⟨va_cnB (ws' := am_BIG) na2 hts (am_BIG_good (am_ws_in hok)) rfl rfl rfl (h1 s hK.2) (by rw [hok.2.1]; exact hts _ h4) ⟨hok.2.2.1, hok.2.2.2.1, hok.2.2.2.2.1⟩ ⟨by show d + 1 ≤ _; exact g1, by show 8 + (mx2 + 11) + am_LOC * d ≤ _; have e9 : am_LOC * (d + 1) = am_LOC * d + 48 := rfl; dsimp only at hl29; omega⟩, hni, hts _ h2⟩ ⟨am_Pc_blind hGK, fun U hU hWm => ⟨rfl, hK.warm hGK hWm, by rw [hU]; exact hW⟩⟩ rfl (by simpa using hlen) (hL.1.trans hoL.1) (by show List.map _ _ = _; simp [am_con]) (lv_room (by rw [am_cats_con]; exact hcat)) hd ⟨by omega, by omega⟩) C g1 g2 g3 g4 hl hoL hrest ret hL
end AMR
