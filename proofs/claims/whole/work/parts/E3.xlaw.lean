/-! The law's methods that catch. -/
theorem tx_ofWW {l : Launch} {y : MethodName} {ws ws' : List Cond} {rm : Room} {Pc : Array Value → State → Prop} {Qc : Array Value → State → Outcome → State → Prop} {mc ms : Nat} {free : Addr → Prop} {cc : ByteArray} {maxL : Nat} {ret : Option FieldType} {hh : List (Nat × Nat × Nat × Nat)}
    (hy : plainName y.cls = true) (hw : ws = Cond.codeWith y cc maxL ret hh :: ws')
    (body : ∀ p e s m args below meth c s₁, BodyLoose p l y (headSpec ws rm) cc maxL ret e s m args below meth c s₁ → c.maxLocals = maxL → c.exceptionTable.toList = tableOf hh → Pc args s →
      W p l e (headSpec ws rm).room s m args below meth c s.heap [] 0 0 (MQ below Qc args s mc ms free) (entryFrame m args maxL)) : Met l y ws rm Pc Qc mc ms free := by
  refine MetFree.of_bodyS (code := cc) (maxLocals := maxL) (ret := ret) hy ?_ ?_
  · intro args s m h hn
    obtain ⟨m9, meth, c, hn9, h1, h2, h3, h4, -, h5, h6, -⟩ := Cond.codeWith_spec (atoms_spec (ws := ws) h _ (by rw [hw]; exact List.mem_cons_self))
    cases Option.some.inj (hn9.symm.trans hn)
    exact ⟨meth, c, h1, h2, h3, h4, h5, h6⟩
  · intro p e s m args below meth c s₁ B hml hP _
    have hh0 : s₁.heap = s.heap := by rw [B.state]; rfl
    have ht := vx_table (x := y) B (atoms_spec (ws := ws) B.pre (Cond.codeWith y cc maxL ret hh) (by rw [hw]; exact List.mem_cons_self))
    obtain ⟨t, a1, o, b1, b2, b3⟩ := body p e s m args below meth c s₁ B hml ht hP s₁ hh0 (Stand.of_body B)
    exact ⟨t, o, a1, b1, b2, ⟨b3.1, b3.2⟩⟩
def am_wsW (M : MD) (hh : List (Nat × Nat × Nat × Nat)) : List Cond := .codeWith M.2.1 M.2.2.1 M.2.2.2.1 M.2.2.2.2.1 hh :: am_BIG
/-- THE CONTRACT of a method with handlers -/
def am_SpW (Γ : AMG) (d k n : Nat) (M : MD) (hh : List (Nat × Nat × Nat × Nat)) (args : List AV) (I : II) (Lg : LJ) (R : RR) (G : GG) (Q : QQ) : Prop :=
  ∀ ρ : Nat → Nat → Nat, am_GK Γ → am_okS G args → Met Γ.l M.2.1 (am_wsW M hh) (am_rm d k n) (am_Pc Γ ρ args I Lg R G) (am_Qc Γ Q ρ G) k n (fun q => Γ.HH.size ≤ q)
theorem am_con_ok {ρ ρ' : Nat → Nat → Nat} {G G' : GG} (hx : am_Ext ρ G ρ' G') {w : AV} (hw : am_ok G w) : am_con ρ' w = am_con ρ w := by
  match w, hw with
  | .inl _, _ => rfl
  | .inr (.inl _), _ => rfl
  | .inr (.inr none), _ => rfl
  | .inr (.inr (some (a, b))), hw => exact congrArg Value.ref (hx.2 a b hw)
theorem am_ok_ext {ρ ρ' : Nat → Nat → Nat} {G G' : GG} (hx : am_Ext ρ G ρ' G') {w : AV} (hw : am_ok G w) : am_ok G' w := by
  match w, hw with
  | .inl _, _ => trivial
  | .inr (.inl _), _ => trivial
  | .inr (.inr none), _ => trivial
  | .inr (.inr (some (a, b))), hw => exact am_okR.ext hx hw
/-- the end of a method -/
theorem am_fin {Γ : AMG} {M : MD} {Q : QQ} {k n : Nat} {ρ ρ' : Nat → Nat → Nat} {G G' : GG} {I' : II} {Lg' : LJ} {R' : RR} {p : Program} {e : Env} {Rm : Room} {s : State} {m : MethodId} {args : Array Value} {below : List Frame} {meth : Method} {c : Code} {H' : Heap} {locs' : List Loc} {cells' slots' pc' : Nat} {ls' : Array Slot} {r : Option AV}
    (hx : p.tables.exec = Jvm.exec) (hb : c.code = M.2.2.1) (hr : meth.sig.returnType = M.2.2.2.2.1) (hlocks : meth.locks = false) (hnx : M.2.2.2.2.2 < 100) (b1 : am_Wd Γ ρ' I' Lg' R' G' H') (b2 : am_Ext ρ G ρ' G') (b3 : ∀ v ∈ r, am_ok G' v) (b4 : ∀ q ∈ locs', Γ.HH.size ≤ q.base) (b7 : Q r I' Lg' R' G') (b8 : am_At M pc' ls' r) (hc : cells' ≤ k) (hs : slots' ≤ n) :
    W p Γ.l e Rm s m args below meth c H' locs' cells' slots' (MQ below (am_Qc Γ Q ρ G) args s k n (fun q => Γ.HH.size ≤ q)) (F0 m pc' ls' (r.toList.map (am_con ρ'))) := by
  refine W.widen (k := k) (n := n) (by omega) (by omega) ?_
  match r, b3, b7, b8 with
  | none, b3, b7, b8 =>
    have b8 := b8.resolve_right (fun z => by omega)
    exact W.vret hx hb (hr.trans b8.2) (fun t ht hWm => ⟨ρ', none, I', Lg', R', G', rfl, by rw [ht]; exact b1, b2, b3, b7⟩) b4 b8.1
  | some (.inl x), b3, b7, b8 =>
    obtain ⟨b8, b9 | ⟨b9, b10⟩⟩ := b8
    · exact W.iret hx hb (hr.trans b9) (fun t ht hWm => ⟨ρ', some (.inl x), I', Lg', R', G', rfl, by rw [ht]; exact b1, b2, b3, b7⟩) b4 b8
    · exact W.zret hx hb (hr.trans b9) (by rcases b10 with rfl | rfl <;> rfl) (fun t ht hWm => ⟨ρ', some (.inl x), I', Lg', R', G', rfl, by rw [ht]; exact b1, b2, b3, b7⟩) b4 b8
  | some (.inr (.inl x)), b3, b7, b8 => exact W.lret hx hb (hr.trans b8.2) (fun t ht hWm => ⟨ρ', some (.inr (.inl x)), I', Lg', R', G', rfl, by rw [ht]; exact b1, b2, b3, b7⟩) b4 b8.1
  | some (.inr (.inr none)), b3, b7, b8 =>
    obtain ⟨b8, nm, b9⟩ := b8
    exact W.aret (v := .null) hx hb (hr.trans b9) (Or.inl ⟨nm, rfl⟩) (Or.inl rfl) (fun t ht hWm => ⟨ρ', some vN, I', Lg', R', G', rfl, by rw [ht]; exact b1, b2, b3, b7⟩) b4 b8
  | some (.inr (.inr (some (a, b)))), b3, b7, b8 =>
    obtain ⟨b8, nm, b9⟩ := b8
    exact W.aret (v := .ref (ρ' a b)) hx hb (hr.trans b9) (Or.inl ⟨nm, rfl⟩) (Or.inr ⟨_, rfl⟩) (fun t ht hWm => ⟨ρ', some (vR a b), I', Lg', R', G', rfl, by rw [ht]; exact b1, b2, b3, b7⟩) b4 b8
abbrev xhh : List (Nat × Nat × Nat × Nat) := [(0, 10, 13, 13)]
/-- what makes a callee of the class known -/
def am_Xok (M M2 : MD) (idx : Nat) : Prop := Cond.code M2.2.1 M2.2.2.1 M2.2.2.2.1 M2.2.2.2.2.1 ∈ am_BIG ∧ Cond.methodLink M.1 idx M2.2.1 ∈ am_BIG ∧ Cond.instanceMethod M2.2.1 ∈ am_BIG ∧ Cond.selects M2.1 M2.2.1 M2.2.1 ∈ am_BIG ∧ Cond.initialized M2.1 ∈ am_BIG ∧ M2.2.1.cls = M2.1 ∧ M2.2.1.cls ≠ "java/lang/invoke/MethodHandle" ∧ M2.2.1.cls ≠ "java/lang/invoke/VarHandle" ∧ (parseMethodDescriptor M2.2.1.desc).map (fun d => d.parameters.length) = some 2 ∧ M2.2.2.2.1 ≤ 29
set_option maxHeartbeats 4000000 in
theorem am_SpW.of {Γ : AMG} {M M2 : MD} {Q : QQ} {d i0 c1 idx : Nat} {x1 x2 : Int32} {I : II} {Lg : LJ} {R : RR} {G : GG} {r0 : vw_C} (hpl : plainName M.2.1.cls = true) (hown : M.2.1.cls = M.1) (hmax : M.2.2.2.1 = 5) (hret : M.2.2.2.2.1 = some .int)
    (d0 : decode M.2.2.1 0 = .ok (.aload_n 3, 1)) (d1 : decode M.2.2.1 1 = .ok (.iconst 0, 1)) (d2 : decode M.2.2.1 2 = .ok (.aload_n 0, 1)) (d3 : decode M.2.2.1 3 = .ok (.iload_n 1, 1)) (d4 : decode M.2.2.1 4 = .ok (.iload_n 2, 1)) (d5 : decode M.2.2.1 5 = .ok (.invokevirtual idx, 3)) (d13 : decode M.2.2.1 13 = .ok (.astore 4, 2))
    (hM1 : M.1 = "StormLoftLaw") (hX : am_Xok M M2 idx) (hr0 : vwCl[11]? = some r0) (hrM : r0.1 = M2.1) (hcl : Cond.classLink "StormLoftLaw" 13 XNS ∈ am_BIG) (hT : am_TK Γ) (hnx : M.2.2.2.2.2 < 100) (hc1 : am_NC ≤ c1 ∨ c1 < am_NC)
    (h : am_SpX Γ d 1 6 M2 [vR 11 0, vI x1, vI x2] I Lg R G (fun r I' Lg' R' G' => match r with
      | some (.inl v) => am_J Γ M Q (d + 1) 0 0 8 [some (vR 11 0), some (vI x1), some (vI x2), some (vR c1 i0), none] [vI v, vI (zI 0), vR c1 i0] I' Lg' R' G'
      | _ => False) (fun I' Lg' R' G' => am_J Γ M Q (d + 1) 0 0 15 [some (vR 11 0), some (vI x1), some (vI x2), some (vR c1 i0), none] [] I' Lg' R' G')) :
    am_SpW Γ (d + 1) 1 6 M xhh [vR 11 0, vI x1, vI x2, vR c1 i0] I Lg R G Q := by
  intro ρ hGK hargs
  have hoA : am_ok G (vR 11 0) := hargs _ (by simp)
  have hoB : am_ok G (vR c1 i0) := hargs _ (by simp)
  refine tx_ofWW (cc := M.2.2.1) (maxL := M.2.2.2.1) (ret := M.2.2.2.2.1) (hh := xhh) hpl rfl ?_
  intro p e s m args9 below meth c s₁ B hml htab hv
  obtain ⟨rfl, hK, hW⟩ := hv
  have hts := atoms_spec (ws := am_wsW M xhh) B.pre
  have hbig : ∀ w ∈ am_BIG, w.before _ s = true := fun w hw => hts w (List.mem_cons_of_mem _ hw)
  have hown2 : s.vm.findClass M.1 = some m.cls := by rw [← hown]; exact findClass_of_methodNamed B.named
  have hin : meth.name = M.2.1.name := (name_of_methodNamed B.named B.method).1
  have hb := B.bytes
  have hr := B.returns
  have hx := B.exec
  have hlocks := B.notSynchronized
  have hml5 : c.maxLocals = 5 := hml.trans hmax
  have hCx : am_Cx Γ M p s m _ meth c := ⟨hx, hb, hml, hr, hlocks, hown2, hbig, fun z => hin.trans z, hK, hGK⟩
  rw [hmax]
  have hl := lv_entry ([.ref (ρ 11 0), .int x1, .int x2, .ref (ρ c1 i0)]) (n := 5) (Nat.le_of_ble_eq_true rfl)
  rw [lg_entry_eq]
  show W p Γ.l e _ s m _ below meth c s.heap [] 0 0 _ (F0 m 0 (lg_sl [.ref (ρ 11 0), .int x1, .int x2, .ref (ρ c1 i0)] ++ List.replicate (5 - (lg_sl [Value.ref (ρ 11 0), .int x1, .int x2, .ref (ρ c1 i0)]).length) Slot.unset).toArray [])
  generalize (lg_sl [.ref (ρ 11 0), .int x1, .int x2, .ref (ρ c1 i0)] ++ List.replicate (5 - (lg_sl [Value.ref (ρ 11 0), .int x1, .int x2, .ref (ρ c1 i0)]).length) Slot.unset).toArray = ls at hl ⊢
  have hl : lv_has ls 5 [(0, .ref (ρ 11 0)), (1, .int x1), (2, .int x2), (3, .ref (ρ c1 i0))] := hl
  refine lv_aload_n (k := 3) hx hb d0 rfl (lv_at hl 3 rfl) ?_
  refine lv_iconst (v := 0) hx hb d1 (by decide) ?_
  refine lv_aload_n (k := 0) hx hb d2 rfl (lv_at hl 0 rfl) ?_
  refine lv_iload_n (k := 1) hx hb d3 rfl (lv_at hl 1 rfl) ?_
  refine lv_iload_n (k := 2) hx hb d4 rfl (lv_at hl 2 rfl) ?_
  have hgood : GoodIn am_BIG (wsV M.1 idx M2.1 M2.2.1 (am_ws M2)) := am_BIG_good (fun w hw => by
    rcases List.mem_append.mp hw with hw | hw
    · simp only [List.mem_cons, List.not_mem_nil, or_false] at hw
      rcases hw with rfl | rfl | rfl | rfl
      · exact hX.2.1
      · exact hX.2.2.1
      · exact hX.2.2.2.1
      · exact hX.2.2.2.2.1
    · rcases List.mem_cons.mp hw with rfl | hw
      · exact hX.1
      · exact hw)
  have hi : 0 < G.2 11 := am_okR.lt hoA (am_lt13 (am_ckN 11 r0 hr0).2)
  have h29 := hX.2.2.2.2.2.2.2.2.2
  have hrecv : ∃ cellB : Cell, s.heap[ρ 11 0]? = some cellB ∧ cellB.vm.isStatics = false ∧ s.vm.findClass M2.1 = some cellB.cls := by
    obtain ⟨q', z1, cell, z2, z3, z4, -⟩ := hW.obj hr0 hi
    exact ⟨cell, z2, by rw [z4]; rfl, by rw [z3, ← hrM]; exact (hK.1.1 _ r0 hr0).2.1⟩
  have hargs2 : am_okS G [vR 11 0, vI x1, vI x2] := fun w hw => by
    simp only [List.mem_cons, List.not_mem_nil, or_false] at hw
    rcases hw with rfl | rfl | rfl
    · exact hoA
    · trivial
    · trivial
  have run := vx_runV (meth := meth) (C := M2.1) (As := [.int x1, .int x2]) (rest := [.int 0, .ref (ρ c1 i0)]) (g := F0 m 5 ls [.int x2, .int x1, .ref (ρ 11 0), .int 0, .ref (ρ c1 i0)]) (H := s.heap) (l := Γ.l) (e := e) (below := below) (locs := []) (cells := 0) (slots := 0) (R := (headSpec (am_wsW M xhh) (am_rm (d + 1) 1 6)).room) ⟨hx, hb, hml5, hown2, hbig⟩ (h ρ hGK hargs2) (cwV (ws' := am_BIG) 2 hbig hgood rfl rfl rfl ⟨hX.2.2.2.2.2.1, hX.2.2.2.2.2.2.1, hX.2.2.2.2.2.2.2.1, hX.2.2.2.2.2.2.2.2.1⟩ ⟨by show d + 1 ≤ d + 1; omega, by show 8 + (M2.2.2.2.1 + 11) + am_LOC * d ≤ am_LOC * (d + 1); have e9 : am_LOC * (d + 1) = am_LOC * d + 48 := rfl; omega⟩) ⟨am_Pc_blind hGK, hrecv, fun U hU hWm => ⟨rfl, hK.warm hGK hWm, by rw [hU]; exact hW⟩⟩ rfl rfl hl.1 rfl (lv_room (Nat.le_of_ble_eq_true rfl)) d5 ⟨Nat.le_refl 1, Nat.le_refl 6⟩
  have hLL : ∀ (ρ' : Nat → Nat → Nat) (G' : GG), am_Ext ρ G ρ' G' → ∀ ls5 : Array Slot, lv_has ls5 5 [(0, .ref (ρ 11 0)), (1, .int x1), (2, .int x2), (3, .ref (ρ c1 i0))] → am_hL ρ' ls5 [some (vR 11 0), some (vI x1), some (vI x2), some (vR c1 i0), none] := fun ρ' G' hx' ls5 h5 => ⟨h5.1, h5.2.1, fun i v hv => by
    match i, hv with
    | 0, hv => cases hv; rw [am_con_ok hx' hoA]; exact lv_at h5 0 rfl
    | 1, hv => cases hv; exact lv_at h5 1 rfl
    | 2, hv => cases hv; exact lv_at h5 2 rfl
    | 3, hv => cases hv; rw [am_con_ok hx' hoB]; exact lv_at h5 3 rfl
    | 4, hv => cases hv
    | i + 5, hv => simp at hv⟩
  have hoL : ∀ G' : GG, am_ok G' (vR 11 0) → am_ok G' (vR c1 i0) → am_okL M.2.2.2.1 G' [some (vR 11 0), some (vI x1), some (vI x2), some (vR c1 i0), none] := fun G' o1 o2 => ⟨hmax.symm, fun v hv => by
    simp only [List.mem_cons, Option.some.injEq, List.not_mem_nil, or_false, reduceCtorEq] at hv
    rcases hv with rfl | rfl | rfl | rfl
    · exact o1
    · trivial
    · trivial
    · exact o2⟩
  intro T hT9 X
  rcases run T hT9 X with ⟨v, st₀, t, T', L, h0, X', hL, e1, e2, ⟨ρ', r, I', Lg', R', G', hv, hW', hx', hr', hq⟩, stp⟩ | ⟨q, st₀, t, T', L, E, ce, h0, X', hL, e1, e2, ⟨hE, ρ', I', Lg', R', G', hW', hx', hq⟩, hce, hcv, hcl9, stp⟩
  · match r, hv, hr', hq with
    | some (.inl x), hv, hr', hq =>
      have hv := Outcome.returned.inj hv
      subst hv
      rw [← e1] at hW'
      obtain ⟨t2, a1, b1⟩ := hq ρ' p e _ s m _ below meth c T'.heap ([] ++ L) (0 + 1) (0 + 6) _ hCx (Nat.le_refl _) (Nat.le_refl _) (Nat.le_refl 1) (Nat.le_refl 6) hW' (fun z hz => hL z (by simpa using hz)) (hoL G' (am_ok_ext hx' hoA) (am_ok_ext hx' hoB)) (fun w hw => by
        simp only [List.mem_cons, List.not_mem_nil, or_false] at hw
        rcases hw with rfl | rfl | rfl
        · trivial
        · trivial
        · exact am_ok_ext hx' hoB) (fun ρ2 r2 I2 Lg2 R2 G2 H2 locs2 cells2 slots2 pc2 ls2 b1 b2 b3 b4 b5 b6 b7 b8 => am_fin hx hb hr hlocks hnx b1 (hx'.tr b2) b3 b4 b7 b8 (by omega) (by omega)) ls (hLL ρ' G' hx' ls hl) T' rfl X'
      refine ⟨t2, stp t2 ?_, b1⟩
      have e9 : [vI x, vI (zI 0), vR c1 i0].map (am_con ρ') = [.int x, .int 0, .ref (ρ c1 i0)] := by
        show [Value.int x, Value.int (zI 0), am_con ρ' (vR c1 i0)] = _
        rw [am_con_ok hx' hoB]
        rfl
      rw [e9] at a1
      exact a1
  · subst hE
    rw [← e1] at hW' hce
    obtain ⟨t1, t2, t3, -⟩ := hT.2 s hK.2
    have hcast : ∀ A9 : Array Value, (Cond.castable XNS XNS).before A9 s = true := fun A9 => vx_ot_at (State.WarmedH.refl s) rfl rfl (t3 _ List.mem_cons_self)
    rw [hM1] at hown2
    have hcatch : vx_W p Γ.l e (headSpec (am_wsW M xhh) (am_rm (d + 1) 1 6)).room s m (([vR 11 0, vI x1, vI x2, vR c1 i0] : List AV).map (am_con ρ)).toArray below meth c T'.heap ([] ++ L) (0 + 1) (0 + 6) (MQ below (am_Qc Γ Q ρ G) (([vR 11 0, vI x1, vI x2, vR c1 i0] : List AV).map (am_con ρ)).toArray s 1 6 (fun q => Γ.HH.size ≤ q)) (F0 m 5 ls [.int 0, .ref (ρ c1 i0)]) q := by
      refine vx_catch (E := XNS) (ce := ce) (name := XNS) hown2 [] ⟨0, 10, 13, 13⟩ [] (by rw [htab]; rfl) (fun z hz => by cases hz) (by decide) (by decide) (hbig _ hcl) (hcast _) hce hcv hcl9 ?_
      refine lv_astore hx hb d13 hl (by decide) rfl (fun ls' hl' => ?_)
      have hl5 : lv_has ls' 5 [(0, .ref (ρ 11 0)), (1, .int x1), (2, .int x2), (3, .ref (ρ c1 i0))] := lv_sub hl' [1, 2, 3, 4] rfl
      exact hq ρ' p e _ s m _ below meth c T'.heap ([] ++ L) (0 + 1) (0 + 6) _ hCx (Nat.le_refl _) (Nat.le_refl _) (Nat.le_refl 1) (Nat.le_refl 6) hW' (fun z hz => hL z (by simpa using hz)) (hoL G' (am_ok_ext hx' hoA) (am_ok_ext hx' hoB)) (fun w hw => by cases hw) (fun ρ2 r2 I2 Lg2 R2 G2 H2 locs2 cells2 slots2 pc2 ls2 b1 b2 b3 b4 b5 b6 b7 b8 => am_fin hx hb hr hlocks hnx b1 (hx'.tr b2) b3 b4 b7 b8 (by omega) (by omega)) ls' (hLL ρ' G' hx' ls' hl5)
    obtain ⟨t9, a1, b1⟩ := hcatch T' rfl X'
    exact ⟨t9, stp.trans a1, b1⟩
