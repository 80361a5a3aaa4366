/-! The law's methods that catch. -/
theorem tx_ofWW {l : Launch} {y : MethodName} {ws ws' : List Cond} {rm : Room} {Pc : Array Value → State → Prop} {Qc : Array Value → State → Outcome → State → Prop} {mc ms : Nat} {free : Addr → Prop} {cc : ByteArray} {maxL : Nat} {ret : Option FieldType} {hh : List (Nat × Nat × Nat × Nat)}
    (hy : plainName y.cls = true) (hw : ws = Cond.codeWith y cc maxL ret hh :: ws')
    (body : ∀ p e s m args below meth c s₁, BodyLoose p l y (headSpec ws rm) cc maxL ret e s m args below meth c s₁ → c.maxLocals = maxL → c.exceptionTable.toList = tableOf hh → Pc args s →
      W p l e (headSpec ws rm).room s m args below meth c s.heap [] 0 0 (MQ below Qc args s mc ms free) (entryFrame m args maxL)) : Met l y ws rm Pc Qc mc ms free := by
  refine MetFree.of_bodyS (code := cc) (maxLocals := maxL) (ret := ret) hy ?_ ?_
  · intro args s m h hn
    obtain ⟨m9, meth, c, hn9, h1, h2, h3, h4, -, h5, h6, -⟩ := Cond.codeWith_spec (atoms_spec (ws := ws) h _ (by rw [hw]; exact List.mem_cons_self))
    cases Option.some.inj (hn9.symm.trans hn)
    exact ⟨meth, c, h1, h2, h3, h4, h5, h6⟩
  · intro p e s m args below meth c s₁ B hml hP _
    have hh0 : s₁.heap = s.heap := by rw [B.state]; rfl
    have ht := vx_table B (atoms_spec (ws := ws) B.pre (Cond.codeWith y cc maxL ret hh) (by rw [hw]; exact List.mem_cons_self))
    obtain ⟨t, a1, o, b1, b2, b3⟩ := body p e s m args below meth c s₁ B hml ht hP s₁ hh0 (Stand.of_body B)
    exact ⟨t, o, a1, b1, b2, ⟨b3.1, b3.2⟩⟩
def am_wsW (M : MD) (hh : List (Nat × Nat × Nat × Nat)) : List Cond := .codeWith M.2.1 M.2.2.1 M.2.2.2.1 M.2.2.2.2.1 hh :: am_BIG
/-- THE CONTRACT of a method with handlers -/
def am_SpW (Γ : AMG) (d k n : Nat) (M : MD) (hh : List (Nat × Nat × Nat × Nat)) (args : List AV) (I : II) (Lg : LJ) (R : RR) (G : GG) (Q : QQ) : Prop :=
  ∀ ρ : Nat → Nat → Nat, am_GK Γ → am_okS G args → Met Γ.l M.2.1 (am_wsW M hh) (am_rm d k n) (am_Pc Γ ρ args I Lg R G) (am_Qc Γ Q ρ G) k n (fun q => Γ.HH.size ≤ q)
theorem am_con_ok {ρ ρ' : Nat → Nat → Nat} {G G' : GG} (hx : am_Ext ρ G ρ' G') {w : AV} (hw : am_ok G w) : am_con ρ' w = am_con ρ w := by
  match w, hw with
  | .inl _, _ => rfl
  | .inr (.inl _), _ => rfl
  | .inr (.inr none), _ => rfl
  | .inr (.inr (some (a, b))), hw => exact congrArg Value.ref (hx.2 a b hw)
theorem am_ok_ext {ρ ρ' : Nat → Nat → Nat} {G G' : GG} (hx : am_Ext ρ G ρ' G') {w : AV} (hw : am_ok G w) : am_ok G' w := by
  match w, hw with
  | .inl _, _ => trivial
  | .inr (.inl _), _ => trivial
  | .inr (.inr none), _ => trivial
  | .inr (.inr (some (a, b))), hw => exact am_okR.ext hx hw
abbrev xhh : List (Nat × Nat × Nat × Nat) := [(0, 10, 13, 13)]
/-- what makes a callee of the class known -/
def am_Xok (M M2 : MD) (idx : Nat) : Prop := Cond.code M2.2.1 M2.2.2.1 M2.2.2.2.1 M2.2.2.2.2.1 ∈ am_BIG ∧ Cond.methodLink M.1 idx M2.2.1 ∈ am_BIG ∧ Cond.instanceMethod M2.2.1 ∈ am_BIG ∧ Cond.selects M2.1 M2.2.1 M2.2.1 ∈ am_BIG ∧ Cond.initialized M2.1 ∈ am_BIG ∧ M2.2.1.cls = M2.1 ∧ M2.2.1.cls ≠ "java/lang/invoke/MethodHandle" ∧ M2.2.1.cls ≠ "java/lang/invoke/VarHandle" ∧ (parseMethodDescriptor M2.2.1.desc).map (fun d => d.parameters.length) = some 2 ∧ M2.2.2.2.1 ≤ 29
set_option maxHeartbeats 4000000 in
theorem am_SpW.of {Γ : AMG} {M M2 : MD} {Q : QQ} {d i0 c1 idx : Nat} {x1 x2 : Int32} {I : II} {Lg : LJ} {R : RR} {G : GG} {r0 : vw_C} (hpl : plainName M.2.1.cls = true) (hown : M.2.1.cls = M.1) (hmax : M.2.2.2.1 = 5) (hret : M.2.2.2.2.1 = some .int)
    (d0 : decode M.2.2.1 0 = .ok (.aload_n 3, 1)) (d1 : decode M.2.2.1 1 = .ok (.iconst 0, 1)) (d2 : decode M.2.2.1 2 = .ok (.aload_n 0, 1)) (d3 : decode M.2.2.1 3 = .ok (.iload_n 1, 1)) (d4 : decode M.2.2.1 4 = .ok (.iload_n 2, 1)) (d5 : decode M.2.2.1 5 = .ok (.invokevirtual idx, 3)) (d13 : decode M.2.2.1 13 = .ok (.astore 4, 2))
    (hM1 : M.1 = "StormLoftLaw") (hX : am_Xok M M2 idx) (hr0 : vwCl[11]? = some r0) (hrM : r0.1 = M2.1) (hcl : Cond.classLink "StormLoftLaw" 13 XNS ∈ am_BIG) (hT : am_TK Γ) (hnx : M.2.2.2.2.2 < 100) (hc1 : am_NC ≤ c1 ∨ c1 < am_NC)
    (h : am_SpX Γ d 1 6 M2 [vR 11 0, vI x1, vI x2] I Lg R G (fun r I' Lg' R' G' => match r with
      | some (.inl v) => am_J Γ M Q (d + 1) 0 0 8 [some (vR 11 0), some (vI x1), some (vI x2), some (vR c1 i0), none] [vI v, vI (zI 0), vR c1 i0] I' Lg' R' G'
      | _ => False) (fun I' Lg' R' G' => am_J Γ M Q (d + 1) 0 0 15 [some (vR 11 0), some (vI x1), some (vI x2), some (vR c1 i0), none] [] I' Lg' R' G')) :
    am_SpW Γ (d + 1) 1 6 M xhh [vR 11 0, vI x1, vI x2, vR c1 i0] I Lg R G Q := by
  intro ρ hGK hargs
  have hoA : am_ok G (vR 11 0) := hargs _ (by simp)
  have hoB : am_ok G (vR c1 i0) := hargs _ (by simp)
  refine tx_ofWW (cc := M.2.2.1) (maxL := M.2.2.2.1) (ret := M.2.2.2.2.1) (hh := xhh) hpl rfl ?_
  intro p e s m args9 below meth c s₁ B hml htab hv
  obtain ⟨rfl, hK, hW⟩ := hv
  have hts := atoms_spec (ws := am_wsW M xhh) B.pre
  have hbig : ∀ w ∈ am_BIG, w.before _ s = true := fun w hw => hts w (List.mem_cons_of_mem _ hw)
  have hown2 : s.vm.findClass M.1 = some m.cls := by rw [← hown]; exact findClass_of_methodNamed B.named
  have hin : meth.name = M.2.1.name := (name_of_methodNamed B.named B.method).1
  have hb := B.bytes
  have hr := B.returns
  have hx := B.exec
  have hlocks := B.notSynchronized
  rw [hmax] at hml ⊢
  have hl := lv_entry ([.ref (ρ 11 0), .int x1, .int x2, .ref (ρ c1 i0)]) (n := 5) (Nat.le_of_ble_eq_true rfl)
  rw [lg_entry_eq]
  show W p Γ.l e _ s m _ below meth c s.heap [] 0 0 _ (F0 m 0 (lg_sl [.ref (ρ 11 0), .int x1, .int x2, .ref (ρ c1 i0)] ++ List.replicate (5 - (lg_sl [Value.ref (ρ 11 0), .int x1, .int x2, .ref (ρ c1 i0)]).length) Slot.unset).toArray [])
  generalize (lg_sl [.ref (ρ 11 0), .int x1, .int x2, .ref (ρ c1 i0)] ++ List.replicate (5 - (lg_sl [Value.ref (ρ 11 0), .int x1, .int x2, .ref (ρ c1 i0)]).length) Slot.unset).toArray = ls at hl ⊢
  have hl : lv_has ls 5 [(0, .ref (ρ 11 0)), (1, .int x1), (2, .int x2), (3, .ref (ρ c1 i0))] := hl
  refine lv_aload_n hx hb d0 rfl (lv_at hl 3 rfl) ?_
  refine lv_iconst (v := 0) hx hb d1 (by decide) ?_
  refine lv_aload_n hx hb d2 rfl (lv_at hl 0 rfl) ?_
  refine lv_iload_n hx hb d3 rfl (lv_at hl 1 rfl) ?_
  refine lv_iload_n hx hb d4 rfl (lv_at hl 2 rfl) ?_
  sorry
