/-! Texts: length and charAt. -/
abbrev AH (HH : Heap) : Nat → Prop := fun a => HH.size ≤ a
def sxP (HH : Heap) (q v n : Nat) (f : Nat → Int32) (U : State) (H : Heap) : Prop :=
  va_Z "java/lang/String" "COMPACT_STRINGS" "Z" (.int 1) (AH HH) U H ∧ va_OF "java/lang/String" "coder" "B" (.int 0) q (AH HH) U H ∧ va_OF "java/lang/String" "value" "[B" (.ref v) q (AH HH) U H ∧ va_T .byte v n (fun j => .int (f j)) (AH HH) U H ∧ va_O "java/lang/String" q (AH HH) U H ∧ va_Zq "jdk/internal/util/Preconditions" "SIOOBE_FORMATTER" "Ljava/util/function/BiFunction;" (AH HH) U H
theorem sxP.moved {HH : Heap} {q v n : Nat} {f : Nat → Int32} {u U : State} {H : Heap} (hvm : u.vm.Alike U.vm) (h : sxP HH q v n f u H) : sxP HH q v n f U H := ⟨va_Z.moved hvm h.1, va_OF.moved hvm h.2.1, va_OF.moved hvm h.2.2.1, va_T.moved hvm h.2.2.2.1, va_O.moved hvm h.2.2.2.2.1, va_Zq.moved hvm h.2.2.2.2.2⟩
theorem sxP.kept {HH : Heap} {q v n : Nat} {f : Nat → Int32} {U : State} {H H1 : Heap} (h : sxP HH q v n f U H) (hq : ∀ a : Nat, a < H.size → ¬ HH.size ≤ a → H1[a]? = H[a]?) : sxP HH q v n f U H1 := ⟨h.1.kept hq, h.2.1.kept hq, h.2.2.1.kept hq, h.2.2.2.1.kept hq, h.2.2.2.2.1.kept hq, h.2.2.2.2.2.kept hq⟩
def sxPc (HH : Heap) (q v n : Nat) (f : Nat → Int32) (args : Array Value) : Array Value → State → Prop := fun a U => a = args ∧ sxP HH q v n f U U.heap
def sxQc (r : Option Value) : Array Value → State → Outcome → State → Prop := fun _ st o t => o = .returned r ∧ t.heap = st.heap
theorem sxPc.blind {HH : Heap} {q v n : Nat} {f : Nat → Int32} {args : Array Value} : FrameBlind (sxPc HH q v n f args) := fun a U g mk h => ⟨h.1, sxP.moved (u := U) (U := U.calling g mk a) (Vm.Alike.refl U.vm) h.2⟩
theorem sx_call {p : Program} {l : Launch} {e : Env} {R : Room} {s : State} {m : MethodId} {args a : Array Value} {below : List Frame} {meth : Method} {c : Code} {H : Heap} {locs : List Loc} {cells slots pc : Nat} {Q : State → Prop} {ls : Array Slot} {st0 rest : List Value} {r : Option Value}
    (run : va_Run p l e R s m args below meth c H locs cells slots 0 0 (F0 m pc ls st0) rest (sxQc r a) (fun _ => False)) (kk : W p l e R s m args below meth c H locs cells slots Q (F0 m (pc + 3) ls (r.toList ++ rest))) : W p l e R s m args below meth c H locs cells slots Q (F0 m pc ls st0) := by
  intro T hT X
  obtain ⟨v, st₀, t, T', L, h0, X', hL, e1, e2, ⟨hv, hh⟩, stp⟩ := run T hT X
  have hv := Outcome.returned.inj hv
  subst hv
  cases L with
  | nil =>
    rw [List.append_nil] at X'
    obtain ⟨t2, a1, b1⟩ := kk T' (by rw [e1, hh, h0]) X'
    exact ⟨t2, stp t2 a1, b1⟩
  | cons x _ => exact (hL x List.mem_cons_self).elim
abbrev RS : String := "java/lang/String"
abbrev jy_coder : MethodName := ⟨RS, "coder", "()B"⟩
abbrev jy_len : MethodName := ⟨RS, "length", "()I"⟩
abbrev jy_lat : MethodName := ⟨RS, "isLatin1", "()Z"⟩
abbrev jy_ch : MethodName := ⟨RS, "charAt", "(I)C"⟩
abbrev jy_ci : MethodName := ⟨RS, "checkIndex", "(II)V"⟩
abbrev jy_l1 : MethodName := ⟨"java/lang/StringLatin1", "charAt", "([BI)C"⟩
abbrev jy_pci : MethodName := ⟨"jdk/internal/util/Preconditions", "checkIndex", "(IILjava/util/function/BiFunction;)I"⟩
abbrev jc_len : ByteArray := prog_21_method_54_code
abbrev jc_ch : ByteArray := prog_21_method_56_code
abbrev jc_coder : ByteArray := prog_21_method_152_code
abbrev jc_lat : ByteArray := prog_21_method_154_code
abbrev jc_ci : ByteArray := prog_21_method_155_code
abbrev jc_l1 : ByteArray := prog_22_method_2_code
abbrev jc_pci : ByteArray := prog_29_method_11_code
def jw_coder : List Cond := .code jy_coder jc_coder 1 (some .byte) :: [.fieldLink RS 38 RS "COMPACT_STRINGS" "Z", .fieldLink RS 15 RS "coder" "B"]
def jw_len : List Cond := .code jy_len jc_len 1 (some .int) :: .fieldLink RS 9 RS "value" "[B" :: wsV RS 335 RS jy_coder jw_coder
def jw_lat : List Cond := .code jy_lat jc_lat 1 (some .boolean) :: [.fieldLink RS 38 RS "COMPACT_STRINGS" "Z", .fieldLink RS 15 RS "coder" "B"]
def jw_pci : List Cond := .code jy_pci jc_pci 3 (some .int) :: []
def jw_ci : List Cond := .code jy_ci jc_ci 2 none :: .fieldLink RS 1053 "jdk/internal/util/Preconditions" "SIOOBE_FORMATTER" "Ljava/util/function/BiFunction;" :: va_wsS RS 1059 jy_pci jw_pci
def jw_l1 : List Cond := .code jy_l1 jc_l1 2 (some .char) :: va_wsS "java/lang/StringLatin1" 9 jy_ci jw_ci
def jw_ch : List Cond := .code jy_ch jc_ch 2 (some .char) :: .fieldLink RS 9 RS "value" "[B" :: (wsV RS 492 RS jy_lat jw_lat ++ va_wsS RS 495 jy_l1 jw_l1)
section TX
variable {HH : Heap} {q v n : Nat} {f : Nat → Int32} {l : Launch}
theorem jx_coder : Met l jy_coder jw_coder { frames := 0, cells := 0, slots := 0, locals := 0 } (sxPc HH q v n f #[.ref q]) (sxQc (some (.int 0))) 0 0 (fun _ => False) := by
  refine Met.ofW (cc := jc_coder) (maxL := 1) (ret := some .byte) (by decide) rfl ?_
  intro p e s m args below meth c s₁ B hml hv
  obtain ⟨rfl, z1, z2, z3, z4, z5, z6⟩ := hv
  have hx := B.exec
  have hb := B.bytes
  have hr := B.returns
  have hts := atoms_spec (ws := jw_coder) B.pre
  have hown : s.vm.findClass RS = some m.cls := findClass_of_methodNamed B.named
  have hlocks := B.notSynchronized
  have hS : va_S (AH HH) s.heap s.heap [] := va_S.rf
  have hl := lv_entry ([.ref q]) (n := 1) (Nat.le_of_ble_eq_true rfl)
  rw [lg_entry_eq]
  generalize (lg_sl ([.ref q]) ++ List.replicate (1 - (lg_sl ([Value.ref q])).length) Slot.unset).toArray = ls at hl ⊢
  have hl : lv_has ls 1 [(0, .ref q)] := hl
  refine va_gets hx hb z1 hS hown (hts (.fieldLink RS 38 RS "COMPACT_STRINGS" "Z") (by simp [jw_coder])) (fun _ h => h) (index := 38) (by decide +kernel) ?_
  refine lv_if_eq (off := 10) (tgt := 13) hx hb (by decide +kernel) rfl (fun h => absurd h (by decide)) (fun _ => ?_)
  refine lv_aload_n (k := 0) hx hb (by decide +kernel) rfl (lv_at hl 0 rfl) ?_
  refine vk_getf hx hb z2 hS hown (hts (.fieldLink RS 15 RS "coder" "B") (by simp [jw_coder])) (fun _ h => h) (index := 15) (by decide +kernel) ?_
  refine lv_goto (off := 4) (tgt := 14) hx hb (by decide +kernel) rfl ?_
  exact W.zret (v := 0) hx hb hr rfl (fun t ht _ => ⟨rfl, ht⟩) (fun q hq => by cases hq) (by decide +kernel)
theorem jx_lat : Met l jy_lat jw_lat { frames := 0, cells := 0, slots := 0, locals := 0 } (sxPc HH q v n f #[.ref q]) (sxQc (some (.int 1))) 0 0 (fun _ => False) := by
  refine Met.ofW (cc := jc_lat) (maxL := 1) (ret := some .boolean) (by decide) rfl ?_
  intro p e s m args below meth c s₁ B hml hv
  obtain ⟨rfl, z1, z2, z3, z4, z5, z6⟩ := hv
  have hx := B.exec
  have hb := B.bytes
  have hr := B.returns
  have hts := atoms_spec (ws := jw_lat) B.pre
  have hown : s.vm.findClass RS = some m.cls := findClass_of_methodNamed B.named
  have hlocks := B.notSynchronized
  have hS : va_S (AH HH) s.heap s.heap [] := va_S.rf
  have hl := lv_entry ([.ref q]) (n := 1) (Nat.le_of_ble_eq_true rfl)
  rw [lg_entry_eq]
  generalize (lg_sl ([.ref q]) ++ List.replicate (1 - (lg_sl ([Value.ref q])).length) Slot.unset).toArray = ls at hl ⊢
  have hl : lv_has ls 1 [(0, .ref q)] := hl
  refine va_gets hx hb z1 hS hown (hts (.fieldLink RS 38 RS "COMPACT_STRINGS" "Z") (by simp [jw_lat])) (fun _ h => h) (index := 38) (by decide +kernel) ?_
  refine lv_if_eq (off := 14) (tgt := 17) hx hb (by decide +kernel) rfl (fun h => absurd h (by decide)) (fun _ => ?_)
  refine lv_aload_n (k := 0) hx hb (by decide +kernel) rfl (lv_at hl 0 rfl) ?_
  refine vk_getf hx hb z2 hS hown (hts (.fieldLink RS 15 RS "coder" "B") (by simp [jw_lat])) (fun _ h => h) (index := 15) (by decide +kernel) ?_
  refine lv_if_ne (off := 7) (tgt := 17) hx hb (by decide +kernel) rfl (fun h => absurd rfl h) (fun _ => ?_)
  refine lv_iconst (v := 1) (n := 1) hx hb (by decide +kernel) (by decide) ?_
  refine lv_goto (off := 4) (tgt := 18) hx hb (by decide +kernel) rfl ?_
  exact W.zret (v := 1) hx hb hr rfl (fun t ht _ => ⟨rfl, ht⟩) (fun q hq => by cases hq) (by decide +kernel)
theorem jx_len (hn : n < 2 ^ 31) : Met l jy_len jw_len { frames := 1, cells := 0, slots := 0, locals := 20 } (sxPc HH q v n f #[.ref q]) (sxQc (some (.int (nI n)))) 0 0 (fun _ => False) := by
  refine Met.ofW (cc := jc_len) (maxL := 1) (ret := some .int) (by decide) rfl ?_
  intro p e s m args below meth c s₁ B hml hv
  obtain ⟨rfl, hP⟩ := hv
  obtain ⟨z1, z2, z3, z4, z5, z6⟩ := id hP
  have hx := B.exec
  have hb := B.bytes
  have hr := B.returns
  have hts := atoms_spec (ws := jw_len) B.pre
  have hown : s.vm.findClass RS = some m.cls := findClass_of_methodNamed B.named
  have hlocks := B.notSynchronized
  have hS : va_S (AH HH) s.heap s.heap [] := va_S.rf
  have hl := lv_entry ([.ref q]) (n := 1) (Nat.le_of_ble_eq_true rfl)
  rw [lg_entry_eq]
  generalize (lg_sl ([.ref q]) ++ List.replicate (1 - (lg_sl ([Value.ref q])).length) Slot.unset).toArray = ls at hl ⊢
  have hl : lv_has ls 1 [(0, .ref q)] := hl
  refine lv_aload_n (k := 0) hx hb (by decide +kernel) rfl (lv_at hl 0 rfl) ?_
  refine vk_getf hx hb z3 hS hown (hts (.fieldLink RS 9 RS "value" "[B") (by simp [jw_len])) (fun _ h => h) (index := 9) (by decide +kernel) ?_
  obtain ⟨cell, t1, t2, t3, t4, t5, t6, t7⟩ := id z4
  refine W.alen (n := nI n) (g := F0 m 4 ls [.ref v]) hx hb t1 t2 t5 rfl rfl (show decode jc_len 4 = .ok (.arraylength, 1) by decide +kernel) ?_
  change W _ _ _ _ _ _ _ _ _ _ _ _ _ _ _ (F0 m 5 ls [.int (nI n)])
  refine lv_aload_n (k := 0) hx hb (by decide +kernel) rfl (lv_at hl 0 rfl) ?_
  refine sx_call (r := some (.int 0)) (va_runV (C := RS) (As := []) (rest := [.int (nI n)]) ⟨hx, hb, hml, hown, hts⟩ jx_coder (cwV (ws' := [.fieldLink RS 38 RS "COMPACT_STRINGS" "Z", .fieldLink RS 15 RS "coder" "B"]) 0 hts (goodIn_sub (fun w hw => List.mem_cons_of_mem _ (List.mem_cons_of_mem _ hw)) (by decide +kernel)) rfl rfl rfl ⟨rfl, by decide, by decide, by decide +kernel⟩ ⟨Nat.le_refl 1, Nat.le_of_ble_eq_true rfl⟩) ⟨sxPc.blind, ?_, fun U hU hW => ⟨rfl, by rw [hU]; exact sxP.moved hW.alike hP⟩⟩ rfl rfl hl.1 rfl (lv_room (Nat.le_of_ble_eq_true rfl)) (show decode jc_len 6 = .ok (.invokevirtual 335, 3) by decide +kernel) ⟨Nat.le_refl 0, Nat.le_refl 0⟩) ?_
  · obtain ⟨cq, o1, o2, o3, -⟩ := z5
    exact ⟨cq, o1, o2, o3⟩
  refine lv_ishr hx hb (by decide +kernel) ?_
  have h0 : nI n >>> ((0 : Int32) &&& 31) = nI n := by
    rw [pk_shrN hn _ 0 (by decide), Nat.pow_zero, Nat.div_one]
  rw [h0]
  exact W.iret (v := nI n) hx hb hr (fun t ht _ => ⟨rfl, ht⟩) (fun q hq => by cases hq) (by decide +kernel)
theorem jx_pci {i k : Int32} {o : Value} (ho : o = .null ∨ ∃ t, o = .ref t) (h0 : ¬ i < 0) (h1 : i < k) : Met l jy_pci jw_pci { frames := 0, cells := 0, slots := 0, locals := 0 } (sxPc HH q v n f #[.int i, .int k, o]) (sxQc (some (.int i))) 0 0 (fun _ => False) := by
  refine Met.ofW (cc := jc_pci) (maxL := 3) (ret := some .int) (by decide) rfl ?_
  intro p e s m args below meth c s₁ B hml hv
  obtain ⟨rfl, -⟩ := hv
  have hx := B.exec
  have hb := B.bytes
  have hr := B.returns
  have hlocks := B.notSynchronized
  have hsl : lg_sl ([.int i, .int k, o]) = [.val (.int i), .val (.int k), .val o] := by
    rcases ho with rfl | ⟨t, rfl⟩ <;> rfl
  have hl := lv_entry ([.int i, .int k, o]) (n := 3) (by rw [hsl]; exact Nat.le_refl 3)
  rw [lg_entry_eq]
  generalize (lg_sl ([.int i, .int k, o]) ++ List.replicate (3 - (lg_sl ([Value.int i, .int k, o])).length) Slot.unset).toArray = ls at hl ⊢
  have hl0 : ls[0]? = some (.val (.int i)) := hl.2.2 (0, .int i) List.mem_cons_self
  have hl1 : ls[1]? = some (.val (.int k)) := hl.2.2 (1, .int k) (List.mem_cons_of_mem _ List.mem_cons_self)
  refine lv_iload_n (k := 0) hx hb (by decide +kernel) rfl hl0 ?_
  refine lv_if_lt (off := 8) (tgt := 9) hx hb (by decide +kernel) rfl (fun h => absurd h h0) (fun _ => ?_)
  refine lv_iload_n (k := 0) hx hb (by decide +kernel) rfl hl0 ?_
  refine lv_iload_n (k := 1) hx hb (by decide +kernel) rfl hl1 ?_
  refine lv_icmp_lt (off := 10) (tgt := 16) hx hb (by decide +kernel) rfl (fun _ => ?_) (fun h => absurd h1 h)
  refine lv_iload_n (k := 0) hx hb (by decide +kernel) rfl hl0 ?_
  exact W.iret (v := i) hx hb hr (fun t ht _ => ⟨rfl, ht⟩) (fun q hq => by cases hq) (by decide +kernel)
theorem jx_ci {i k : Int32} (h0 : ¬ i < 0) (h1 : i < k) : Met l jy_ci jw_ci { frames := 1, cells := 0, slots := 0, locals := 22 } (sxPc HH q v n f #[.int i, .int k]) (sxQc none) 0 0 (fun _ => False) := by
  refine Met.ofW (cc := jc_ci) (maxL := 2) (ret := none) (by decide) rfl ?_
  intro p e s m args below meth c s₁ B hml hv
  obtain ⟨rfl, hP⟩ := hv
  obtain ⟨z1, z2, z3, z4, z5, z6⟩ := id hP
  have hx := B.exec
  have hb := B.bytes
  have hr := B.returns
  have hts := atoms_spec (ws := jw_ci) B.pre
  have hown : s.vm.findClass RS = some m.cls := findClass_of_methodNamed B.named
  have hlocks := B.notSynchronized
  have hS : va_S (AH HH) s.heap s.heap [] := va_S.rf
  have hl := lv_entry ([.int i, .int k]) (n := 2) (Nat.le_of_ble_eq_true rfl)
  rw [lg_entry_eq]
  generalize (lg_sl ([.int i, .int k]) ++ List.replicate (2 - (lg_sl ([Value.int i, .int k])).length) Slot.unset).toArray = ls at hl ⊢
  have hl : lv_has ls 2 [(0, .int i), (1, .int k)] := hl
  have go : ∀ o : Value, (o = .null ∨ ∃ t, o = .ref t) → va_Z "jdk/internal/util/Preconditions" "SIOOBE_FORMATTER" "Ljava/util/function/BiFunction;" o (AH HH) s s.heap → W p l e (headSpec jw_ci { frames := 1, cells := 0, slots := 0, locals := 22 }).room s m #[Value.int i, Value.int k] below meth c s.heap [] 0 0 (MQ below (sxQc none) #[Value.int i, Value.int k] s 0 0 (fun _ => False)) (F0 m 0 ls []) := by
    intro o ho hz
    refine lv_iload_n (k := 0) hx hb (by decide +kernel) rfl (lv_at hl 0 rfl) ?_
    refine lv_iload_n (k := 1) hx hb (by decide +kernel) rfl (lv_at hl 1 rfl) ?_
    refine va_gets hx hb hz hS hown (hts (.fieldLink RS 1053 "jdk/internal/util/Preconditions" "SIOOBE_FORMATTER" "Ljava/util/function/BiFunction;") (by simp [jw_ci])) (fun _ h => h) (index := 1053) (by decide +kernel) ?_
    refine sx_call (r := some (.int i)) (va_runS (As := [.int i, .int k, o]) (rest := []) ⟨hx, hb, hml, hown, hts⟩ (jx_pci ho h0 h1) (va_cwS (ws' := []) 3 hts (goodIn_sub (fun w hw => List.mem_cons_of_mem _ (List.mem_cons_of_mem _ hw)) (by decide +kernel)) rfl rfl rfl ⟨by decide, by decide, by decide +kernel⟩ ⟨Nat.le_refl 1, Nat.le_of_ble_eq_true rfl⟩) ⟨sxPc.blind, fun U hU hW => ⟨rfl, by rw [hU]; exact sxP.moved hW.alike hP⟩⟩ rfl rfl hl.1 rfl (lv_room (Nat.le_of_ble_eq_true rfl)) (show decode jc_ci 5 = .ok (.invokestatic 1059, 3) by decide +kernel) ⟨Nat.le_refl 0, Nat.le_refl 0⟩) ?_
    refine lv_pop hx hb (by decide +kernel) rfl ?_
    exact W.vret hx hb hr (fun t ht _ => ⟨rfl, ht⟩) (fun q hq => by cases hq) (by decide +kernel)
  rcases z6 with hz | ⟨t, hz⟩
  · exact go .null (Or.inl rfl) hz
  · exact go (.ref t) (Or.inr ⟨t, rfl⟩) hz
theorem jx_l1 {i : Int32} {k : Nat} (hk : i.toInt = k) (hn : n < 2 ^ 31) (hkn : k < n) (hf : 0 ≤ (f k).toInt ∧ (f k).toInt ≤ 255) : Met l jy_l1 jw_l1 { frames := 2, cells := 0, slots := 0, locals := 60 } (sxPc HH q v n f #[.ref v, .int i]) (sxQc (some (.int (f k)))) 0 0 (fun _ => False) := by
  refine Met.ofW (cc := jc_l1) (maxL := 2) (ret := some .char) (by decide) rfl ?_
  intro p e s m args below meth c s₁ B hml hv
  obtain ⟨rfl, hP⟩ := hv
  obtain ⟨z1, z2, z3, z4, z5, z6⟩ := id hP
  have hx := B.exec
  have hb := B.bytes
  have hr := B.returns
  have hts := atoms_spec (ws := jw_l1) B.pre
  have hown : s.vm.findClass "java/lang/StringLatin1" = some m.cls := findClass_of_methodNamed B.named
  have hlocks := B.notSynchronized
  have hS : va_S (AH HH) s.heap s.heap [] := va_S.rf
  have hl := lv_entry ([.ref v, .int i]) (n := 2) (Nat.le_of_ble_eq_true rfl)
  rw [lg_entry_eq]
  generalize (lg_sl ([.ref v, .int i]) ++ List.replicate (2 - (lg_sl ([Value.ref v, .int i])).length) Slot.unset).toArray = ls at hl ⊢
  have hl : lv_has ls 2 [(0, .ref v), (1, .int i)] := hl
  obtain ⟨cell, t1, t2, t3, t4, t5, t6, t7⟩ := id z4
  have hnt : (nI n).toInt = n := by rw [← zI_nI]; exact zI_toInt (by omega) (by omega)
  refine lv_iload_n (k := 1) hx hb (by decide +kernel) rfl (lv_at hl 1 rfl) ?_
  refine lv_aload_n (k := 0) hx hb (by decide +kernel) rfl (lv_at hl 0 rfl) ?_
  refine W.alen (n := nI n) (g := F0 m 2 ls [.ref v, .int i]) hx hb t1 t2 t5 rfl rfl (show decode jc_l1 2 = .ok (.arraylength, 1) by decide +kernel) ?_
  change W _ _ _ _ _ _ _ _ _ _ _ _ _ _ _ (F0 m 3 ls [.int (nI n), .int i])
  refine sx_call (r := none) (va_runS (As := [.int i, .int (nI n)]) (rest := []) ⟨hx, hb, hml, hown, hts⟩ (jx_ci (q := q) (v := v) (n := n) (f := f) (i := i) (k := nI n) (by rw [Int32.lt_iff_toInt_lt, hk]; show ¬ ((k : Int) < (0 : Int32).toInt); rw [Int32.toInt_zero]; omega) (by rw [Int32.lt_iff_toInt_lt, hk, hnt]; omega)) (va_cwS (ws' := .fieldLink RS 1053 "jdk/internal/util/Preconditions" "SIOOBE_FORMATTER" "Ljava/util/function/BiFunction;" :: va_wsS RS 1059 jy_pci jw_pci) 2 hts (goodIn_sub (fun w hw => List.mem_cons_of_mem _ hw) (by decide +kernel)) rfl rfl rfl ⟨by decide, by decide, by decide +kernel⟩ ⟨Nat.le_refl 2, Nat.le_of_ble_eq_true rfl⟩) ⟨sxPc.blind, fun U hU hW => ⟨rfl, by rw [hU]; exact sxP.moved hW.alike hP⟩⟩ rfl rfl hl.1 rfl (lv_room (Nat.le_of_ble_eq_true rfl)) (show decode jc_l1 3 = .ok (.invokestatic 9, 3) by decide +kernel) ⟨Nat.le_refl 0, Nat.le_refl 0⟩) ?_
  refine lv_aload_n (k := 0) hx hb (by decide +kernel) rfl (lv_at hl 0 rfl) ?_
  refine lv_iload_n (k := 1) hx hb (by decide +kernel) rfl (lv_at hl 1 rfl) ?_
  have hkk : i.toNatClampNeg = k := by show i.toInt.toNat = k; omega
  refine W.bald (v := .int (f k)) (g := F0 m 8 ls [.int i, .ref v]) hx hb t1 t2 t3 (fun z => by
    rcases z with z | z
    · rw [Int32.lt_iff_toInt_lt, hk, Int32.toInt_zero] at z
      omega
    · omega) (by rw [hkk]; exact t6 k hkn) rfl rfl (show decode jc_l1 8 = .ok (.baload, 1) by decide +kernel) ?_
  change W _ _ _ _ _ _ _ _ _ _ _ _ _ _ _ (F0 m 9 ls [.int (f k)])
  refine lv_sipush (n := 255) (v := 255) hx hb (by decide +kernel) (by decide) ?_
  refine lv_iand hx hb (by decide +kernel) ?_
  have hfa : f k &&& 255 = f k := by
    have e1 := pk_and (f k) (m := 255) 8 (by decide +kernel)
    have e2 : (f k).toBitVec.toNat < 256 := by
      have e3 := BitVec.toInt_eq_toNat_cond (f k).toBitVec
      have e4 : (f k).toBitVec.toInt = (f k).toInt := rfl
      have := (f k).toBitVec.isLt
      split at e3 <;> omega
    rw [e1, Nat.mod_eq_of_lt e2]
    apply Int32.toBitVec.inj
    apply BitVec.eq_of_toNat_eq
    rw [pk_tn (by omega)]
  refine lv_i2c (v := f k) hx hb (by decide +kernel) ?_ ?_
  · rw [hfa, pk_char]
    have e2 : (f k).toBitVec.toNat < 256 := by
      have e3 := BitVec.toInt_eq_toNat_cond (f k).toBitVec
      have e4 : (f k).toBitVec.toInt = (f k).toInt := rfl
      have := (f k).toBitVec.isLt
      split at e3 <;> omega
    apply Int32.toBitVec.inj
    apply BitVec.eq_of_toNat_eq
    rw [pk_tn (by omega), Nat.mod_eq_of_lt (by omega)]
  · have e2 : (f k).toBitVec.toNat < 256 := by
      have e3 := BitVec.toInt_eq_toNat_cond (f k).toBitVec
      have e4 : (f k).toBitVec.toInt = (f k).toInt := rfl
      have := (f k).toBitVec.isLt
      split at e3 <;> omega
    have e5 : f k = nI (f k).toBitVec.toNat := by
      apply Int32.toBitVec.inj
      apply BitVec.eq_of_toNat_eq
      rw [pk_tn (by omega)]
    refine W.zret (v := f k) hx hb hr ?_ (fun t ht _ => ⟨rfl, ht⟩) (fun q hq => by cases hq) (by decide +kernel)
    rw [e5]
    exact (pk_charN (by omega)).1
theorem jx_ch {i : Int32} {k : Nat} (hk : i.toInt = k) (hn : n < 2 ^ 31) (hkn : k < n) (hf : 0 ≤ (f k).toInt ∧ (f k).toInt ≤ 255) : Met l jy_ch jw_ch { frames := 3, cells := 0, slots := 0, locals := 90 } (sxPc HH q v n f #[.ref q, .int i]) (sxQc (some (.int (f k)))) 0 0 (fun _ => False) := by
  refine Met.ofW (cc := jc_ch) (maxL := 2) (ret := some .char) (by decide) rfl ?_
  intro p e s m args below meth c s₁ B hml hv
  obtain ⟨rfl, hP⟩ := hv
  obtain ⟨z1, z2, z3, z4, z5, z6⟩ := id hP
  have hx := B.exec
  have hb := B.bytes
  have hr := B.returns
  have hts := atoms_spec (ws := jw_ch) B.pre
  have hown : s.vm.findClass RS = some m.cls := findClass_of_methodNamed B.named
  have hlocks := B.notSynchronized
  have hS : va_S (AH HH) s.heap s.heap [] := va_S.rf
  have hl := lv_entry ([.ref q, .int i]) (n := 2) (Nat.le_of_ble_eq_true rfl)
  rw [lg_entry_eq]
  generalize (lg_sl ([.ref q, .int i]) ++ List.replicate (2 - (lg_sl ([Value.ref q, .int i])).length) Slot.unset).toArray = ls at hl ⊢
  have hl : lv_has ls 2 [(0, .ref q), (1, .int i)] := hl
  refine lv_aload_n (k := 0) hx hb (by decide +kernel) rfl (lv_at hl 0 rfl) ?_
  refine sx_call (r := some (.int 1)) (va_runV (C := RS) (As := []) (rest := []) ⟨hx, hb, hml, hown, hts⟩ jx_lat (cwV (ws' := [.fieldLink RS 38 RS "COMPACT_STRINGS" "Z", .fieldLink RS 15 RS "coder" "B"]) 0 hts (goodIn_sub (fun w hw => List.mem_cons_of_mem _ (List.mem_cons_of_mem _ (List.mem_append_left _ hw))) (by decide +kernel)) rfl rfl rfl ⟨rfl, by decide, by decide, by decide +kernel⟩ ⟨Nat.le_of_ble_eq_true rfl, Nat.le_of_ble_eq_true rfl⟩) ⟨sxPc.blind, ?_, fun U hU hW => ⟨rfl, by rw [hU]; exact sxP.moved hW.alike hP⟩⟩ rfl rfl hl.1 rfl (lv_room (Nat.le_of_ble_eq_true rfl)) (show decode jc_ch 1 = .ok (.invokevirtual 492, 3) by decide +kernel) ⟨Nat.le_refl 0, Nat.le_refl 0⟩) ?_
  · obtain ⟨cq, o1, o2, o3, -⟩ := z5
    exact ⟨cq, o1, o2, o3⟩
  refine lv_if_eq (off := 12) (tgt := 16) hx hb (by decide +kernel) rfl (fun h => absurd h (by decide)) (fun _ => ?_)
  refine lv_aload_n (k := 0) hx hb (by decide +kernel) rfl (lv_at hl 0 rfl) ?_
  refine vk_getf hx hb z3 hS hown (hts (.fieldLink RS 9 RS "value" "[B") (by simp [jw_ch])) (fun _ h => h) (index := 9) (by decide +kernel) ?_
  refine lv_iload_n (k := 1) hx hb (by decide +kernel) rfl (lv_at hl 1 rfl) ?_
  refine sx_call (r := some (.int (f k))) (va_runS (As := [.ref v, .int i]) (rest := []) ⟨hx, hb, hml, hown, hts⟩ (jx_l1 (q := q) hk hn hkn hf) (va_cwS (ws' := va_wsS "java/lang/StringLatin1" 9 jy_ci jw_ci) 2 hts (goodIn_sub (fun w hw => List.mem_cons_of_mem _ (List.mem_cons_of_mem _ (List.mem_append_right _ hw))) (by decide +kernel)) rfl rfl rfl ⟨by decide, by decide, by decide +kernel⟩ ⟨Nat.le_refl 3, Nat.le_of_ble_eq_true rfl⟩) ⟨sxPc.blind, fun U hU hW => ⟨rfl, by rw [hU]; exact sxP.moved hW.alike hP⟩⟩ rfl rfl hl.1 rfl (lv_room (Nat.le_of_ble_eq_true rfl)) (show decode jc_ch 12 = .ok (.invokestatic 495, 3) by decide +kernel) ⟨Nat.le_refl 0, Nat.le_refl 0⟩) ?_
  have e2 : (f k).toBitVec.toNat < 256 := by
    have e3 := BitVec.toInt_eq_toNat_cond (f k).toBitVec
    have e4 : (f k).toBitVec.toInt = (f k).toInt := rfl
    have := (f k).toBitVec.isLt
    split at e3 <;> omega
  have e5 : f k = nI (f k).toBitVec.toNat := by
    apply Int32.toBitVec.inj
    apply BitVec.eq_of_toNat_eq
    rw [pk_tn (by omega)]
  refine W.zret (v := f k) hx hb hr ?_ (fun t ht _ => ⟨rfl, ht⟩) (fun q hq => by cases hq) (by decide +kernel)
  rw [e5]
  exact (pk_charN (by omega)).1
end TX
