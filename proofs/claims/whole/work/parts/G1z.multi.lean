/-! Rows of rows of ints are made: 'multianewarray' of two dimensions, walked over the machine's word. -/
def mnO (c : ClassId) (N h i : Nat) : Cell := arrV c N (fun j => if j < i then .ref (h + 1 + j) else .null)
def mnN (c : ClassId) (K : Nat) : Cell := arrV c K (fun _ => .int 0)
/-- behind i inner rows -/
def mnS (s : State) (cA cC : ClassId) (N K : Nat) : Nat → State
  | 0 => s.pushCell (mnO cA N s.heap.size 0)
  | i + 1 => ((mnS s cA cC N K i).pushCell (mnN cC K)).setCell s.heap.size (mnO cA N s.heap.size (i + 1))
theorem mnO_next {c : ClassId} {N h i : Nat} : (mnO c N h i).setSlot i (.ref (h + 1 + i)) = mnO c N h (i + 1) := by
  unfold mnO
  rw [arrV_store]
  congr 1
  funext j
  unfold updV
  by_cases e : j = i
  · subst e
    rw [if_pos rfl, if_pos (by omega)]
  · rw [if_neg e]
    show (if j < i then Value.ref (h + 1 + j) else Value.null) = if j < i + 1 then Value.ref (h + 1 + j) else Value.null
    by_cases e2 : j < i
    · rw [if_pos e2, if_pos (by omega)]
    · rw [if_neg e2, if_neg (by omega)]
section MNS
variable {s : State} {cA cC : ClassId} {N K : Nat}
theorem mnS_sz : ∀ i, (mnS s cA cC N K i).heap.size = s.heap.size + 1 + i
  | 0 => by
    show (s.pushCell (mnO cA N s.heap.size 0)).heap.size = _
    simp
  | i + 1 => by
    have h := mnS_sz i
    show (((mnS s cA cC N K i).pushCell (mnN cC K)).setCell s.heap.size (mnO cA N s.heap.size (i + 1))).heap.size = _
    simp [State.setCell, h]
    omega
theorem mnS_vm : ∀ i, (mnS s cA cC N K i).vm = s.vm
  | 0 => rfl
  | i + 1 => mnS_vm i
theorem mnS_used : ∀ i, (mnS s cA cC N K i).slotsUsed = s.slotsUsed + N + i * K
  | 0 => by
    show s.slotsUsed + (mnO cA N s.heap.size 0).slots.size = _
    rw [show (mnO cA N s.heap.size 0).slots.size = N from arrV_size _ _ _]
    omega
  | i + 1 => by
    show (mnS s cA cC N K i).slotsUsed + (mnN cC K).slots.size = _
    rw [mnS_used i, show (mnN cC K).slots.size = K from arrV_size _ _ _, Nat.succ_mul]
    omega
theorem mnS_own : ∀ i, (mnS s cA cC N K i).heap[s.heap.size]? = some (mnO cA N s.heap.size i)
  | 0 => State.heap_pushCell_size _ _
  | i + 1 => by
    have hlt : s.heap.size < (mnS s cA cC N K i).heap.size := by rw [mnS_sz i]; omega
    have h : ((mnS s cA cC N K i).pushCell (mnN cC K)).heap[s.heap.size]? = some (mnO cA N s.heap.size i) := by
      rw [State.heap_pushCell_of_lt (h := hlt)]
      exact mnS_own i
    exact State.heap_setCell_self h
theorem mnS_old {a : Addr} (ha : a < s.heap.size) : ∀ i, (mnS s cA cC N K i).heap[a]? = s.heap[a]?
  | 0 => State.heap_pushCell_of_lt _ _ ha
  | i + 1 => by
    have hlt : a < (mnS s cA cC N K i).heap.size := Nat.lt_of_lt_of_le ha (by rw [mnS_sz i]; omega)
    show (((mnS s cA cC N K i).pushCell (mnN cC K)).setCell s.heap.size (mnO cA N s.heap.size (i + 1))).heap[a]? = _
    rw [State.heap_setCell_other (Nat.ne_of_gt ha), State.heap_pushCell_of_lt (h := hlt)]
    exact mnS_old ha i
theorem mnS_in : ∀ i j, j < i → (mnS s cA cC N K i).heap[s.heap.size + 1 + j]? = some (mnN cC K)
  | 0, _, h => absurd h (Nat.not_lt_zero _)
  | i + 1, j, h => by
    show (((mnS s cA cC N K i).pushCell (mnN cC K)).setCell s.heap.size (mnO cA N s.heap.size (i + 1))).heap[s.heap.size + 1 + j]? = _
    rw [State.heap_setCell_other (show s.heap.size ≠ s.heap.size + 1 + j by omega)]
    by_cases e : j = i
    · subst e
      rw [← mnS_sz (s := s) (cA := cA) (cC := cC) (N := N) (K := K) j]
      exact State.heap_pushCell_size _ _
    · have hlt : s.heap.size + 1 + j < (mnS s cA cC N K i).heap.size := by rw [mnS_sz i]; omega
      rw [State.heap_pushCell_of_lt (h := hlt)]
      exact mnS_in i j (by omega)
theorem mnS_top (f : JFrame) : ∀ i, mnS (s.setTop f) cA cC N K i = (mnS s cA cC N K i).setTop f
  | 0 => rfl
  | i + 1 => by
    show ((mnS (s.setTop f) cA cC N K i).pushCell (mnN cC K)).setCell (s.setTop f).heap.size (mnO cA N (s.setTop f).heap.size (i + 1)) = _
    rw [mnS_top f i]
    rfl
end MNS
section MNW
variable {E : CtlPost} {e : Env} {d : Bool} {acts : List Action} {s : State}
/-- one array, of one value -/
theorem wp_mn1 {c comp : ClassId} {k : Class} {ty : FieldType} {len : Nat} {v : Value} (hk : s.vm.classes[c]? = some k) (hkd : k.kind = .array comp ty) (hf : fits ty v = true) (hd : v.isDefault = true)
    (g1 : len ≤ e.platform.arrayLengthLimit) (g2 : len * componentBytes ty ≤ e.platform.maxHeapBytes) (g3 : s.heap.size < e.platform.maxCells) (g4 : s.slotsUsed + len ≤ e.platform.maxSlots) {Q : Addr → Pre}
    (h : Q s.heap.size d acts (s.pushCell (arrV c len (fun _ => v)))) : wp (Jvm.newArray c len v) Q E e d acts s := by
  have g1' : ¬ len > e.platform.arrayLengthLimit := by omega
  have g2' : ¬ len * componentBytes ty > e.platform.maxHeapBytes := by omega
  have g4' : ¬ len > e.platform.maxSlots := by omega
  have hfs : ∀ i w, (Array.replicate len v)[i]? = some w → s.fitsSlot c .none i w = true := fun i w hw => by
    rw [Array.getElem?_replicate] at hw
    split at hw
    · cases hw
      simp [State.fitsSlot, State.slotType?, hk, hkd, hf]
    · cases hw
  have hac : allocActs (Array.replicate len v) s.heap.size acts = acts := if_pos (by
    rw [Array.all_replicate]
    split
    · rfl
    · exact hd)
  rw [← arrV_new] at h
  simp only [Jvm.newArray, Jvm.arrayFits, wp_bind', wp_pure', W.ask, W.ite, W.theClass, W.alloc, W.stop, hk, hkd, g1', g2', g4', if_false, Option.some.injEq, exists_eq_left', Array.size_replicate, hac]
  exact ⟨g3, g4, hfs, h⟩
/-- the inner one -/
theorem wp_mn2 {c comp : ClassId} {k : Class} {n : Int32} (hk : s.vm.classes[c]? = some k) (hkd : k.kind = .array comp .int) (hn : ¬ n < 0)
    (g1 : n.toNatClampNeg ≤ e.platform.arrayLengthLimit) (g2 : n.toNatClampNeg * 4 ≤ e.platform.maxHeapBytes) (g3 : s.heap.size < e.platform.maxCells) (g4 : s.slotsUsed + n.toNatClampNeg ≤ e.platform.maxSlots) {Q : Addr → Pre}
    (h : Q s.heap.size d acts (s.pushCell (mnN c n.toNatClampNeg))) : wp (multianewarray.make c [n]) Q E e d acts s := by
  rw [multianewarray.make]
  simp only [wp_bind', wp_pure', W.ite, W.theClass, hn, hk, hkd, if_false, Option.some.injEq, exists_eq_left']
  exact wp_mn1 (v := .int 0) hk hkd rfl rfl g1 g2 g3 g4 h
/-- both -/
theorem wp_mn3 {cA cC cc : ClassId} {kA kC : Class} {n m : Int32} (hkA : s.vm.classes[cA]? = some kA) (hkdA : kA.kind = .array cC (.array .int)) (hkC : s.vm.classes[cC]? = some kC) (hkdC : kC.kind = .array cc .int) (hn : ¬ n < 0) (hm : ¬ m < 0)
    (g1 : n.toNatClampNeg ≤ e.platform.arrayLengthLimit) (g2 : n.toNatClampNeg * 4 ≤ e.platform.maxHeapBytes) (g3 : m.toNatClampNeg ≤ e.platform.arrayLengthLimit) (g4 : m.toNatClampNeg * 4 ≤ e.platform.maxHeapBytes)
    (g5 : s.heap.size + 1 + n.toNatClampNeg ≤ e.platform.maxCells) (g6 : s.slotsUsed + n.toNatClampNeg + n.toNatClampNeg * m.toNatClampNeg ≤ e.platform.maxSlots) {Q : Addr → Pre}
    (h : ∀ d' acts', Q s.heap.size d' acts' (mnS s cA cC n.toNatClampNeg m.toNatClampNeg n.toNatClampNeg)) : wp (multianewarray.make cA [n, m]) Q E e d acts s := by
  have hbad : ([m].find? (· < 0)) = none := by simp [hm]
  rw [multianewarray.make]
  simp only [wp_bind', wp_pure', W.ite, W.theClass, hn, hkA, hkdA, if_false, Option.some.injEq, exists_eq_left']
  refine wp_mn1 (v := .null) hkA hkdA rfl rfl g1 g2 (by omega) (by omega) ?_
  simp only [hbad]
  rw [ite_self, wp_bind', Std.Legacy.Range.forIn_eq_forIn_range']
  have hsz : ([:n.toNatClampNeg] : Std.Legacy.Range).size = n.toNatClampNeg := by simp [Std.Legacy.Range.size]
  rw [hsz]
  have h0 : s.pushCell (arrV cA n.toNatClampNeg (fun _ => .null)) = mnS s cA cC n.toNatClampNeg m.toNatClampNeg 0 := by
    show _ = s.pushCell (mnO cA n.toNatClampNeg s.heap.size 0)
    congr 1
  rw [h0]
  show wp (forIn (List.range' 0 n.toNatClampNeg 1) PUnit.unit _) _ E e d acts _
  refine wp_forIn_inv (fun l u => ∃ i, i ≤ n.toNatClampNeg ∧ l = List.range' i (n.toNatClampNeg - i) ∧ u = mnS s cA cC n.toNatClampNeg m.toNatClampNeg i) _ _ ⟨0, Nat.zero_le _, rfl, rfl⟩ ?_ ?_
  · rintro x l u d' acts' Q' ⟨i, hi, hl, rfl⟩ hnext
    by_cases e0 : i = n.toNatClampNeg
    · rw [e0, Nat.sub_self] at hl
      cases hl
    · have hin : i < n.toNatClampNeg := by omega
      rw [show n.toNatClampNeg - i = n.toNatClampNeg - (i + 1) + 1 by omega, List.range'_succ] at hl
      obtain ⟨rfl, rfl⟩ := List.cons.inj hl
      have hz := mnS_sz (s := s) (cA := cA) (cC := cC) (N := n.toNatClampNeg) (K := m.toNatClampNeg) x
      have hu := mnS_used (s := s) (cA := cA) (cC := cC) (N := n.toNatClampNeg) (K := m.toNatClampNeg) x
      have hv := mnS_vm (s := s) (cA := cA) (cC := cC) (N := n.toNatClampNeg) (K := m.toNatClampNeg) x
      have ho := mnS_own (s := s) (cA := cA) (cC := cC) (N := n.toNatClampNeg) (K := m.toNatClampNeg) x
      have hmul : x * m.toNatClampNeg + m.toNatClampNeg ≤ n.toNatClampNeg * m.toNatClampNeg := by
        have := Nat.mul_le_mul_right m.toNatClampNeg (show x + 1 ≤ n.toNatClampNeg from hin)
        rwa [Nat.succ_mul] at this
      have hlt : s.heap.size < (mnS s cA cC n.toNatClampNeg m.toNatClampNeg x).heap.size := by omega
      simp only [wp_bind']
      refine wp_mn2 (by rw [hv]; exact hkC) hkdC hm g3 g4 (by omega) (by omega) ?_
      simp only [wp_bind', wp_pure', W.writeLoc]
      refine ⟨mnO cA n.toNatClampNeg s.heap.size x, by rw [State.heap_pushCell_of_lt (h := hlt)]; exact ho, (by show VmData.none ≠ VmData.unknown; intro q; cases q), by rw [show (mnO cA n.toNatClampNeg s.heap.size x).slots.size = n.toNatClampNeg from arrV_size _ _ _]; exact hin, ?_, hnext _ _ _ ⟨x + 1, hin, rfl, ?_⟩⟩
      · show ((mnS s cA cC n.toNatClampNeg m.toNatClampNeg x).pushCell (mnN cC m.toNatClampNeg)).fitsSlot cA .none x _ = true
        simp [State.fitsSlot, State.slotType?, hv, hkA, hkdA]
        rfl
      · rw [hz, mnO_next]
        rfl
  · rintro u d' acts' ⟨i, hi, hl, rfl⟩
    have e0 : i = n.toNatClampNeg := by
      apply Classical.byContradiction
      intro ne
      rw [show n.toNatClampNeg - i = n.toNatClampNeg - (i + 1) + 1 by omega, List.range'_succ] at hl
      cases hl
    subst e0
    simp only [wp_pure']
    exact h _ _
end MNW
/-- the word of a row of rows -/
theorem ov_arr {args : Array Value} {s : State} {t : FieldType} (h : (Cond.arrayOver (.array t)).before args s = true) :
    ∃ (cC cA : ClassId) (k : Class), s.vm.findClass (FieldType.array t).toString = some cC ∧ s.vm.classes[cA]? = some k ∧ k.kind = .array cC (.array t) ∧ s.vm.findClass ("[" ++ (FieldType.array t).toString) = some cA := by
  have h : (Cond.arrayOver (.array t)).holds args s none s [] = true := h
  simp only [Cond.holds, Cond.value, beq_iff_eq] at h
  cases hc : s.vm.findClass (FieldType.array t).toString with
  | none => simp [hc] at h
  | some cC =>
    simp only [hc, Option.bind_some, Option.bind_eq_some_iff, Option.map_eq_some_iff] at h
    obtain ⟨cA, hi, k, hk, hb⟩ := h
    obtain ⟨hlt, hp, -⟩ := Array.findIdx?_eq_some_iff_getElem.mp hi
    have hkk : s.vm.classes[cA] = k := (Array.getElem?_eq_some_iff.mp hk).2
    rw [hkk] at hp
    cases hkd : k.kind with
    | array c2 t2 =>
      rw [hkd] at hb hp
      simp at hb hp
      exact ⟨cC, cA, k, rfl, hk, by rw [hkd, hp, hb.1], hb.2⟩
    | _ => rw [hkd] at hb; simp at hb
section MNX
variable {p : Program} {l : Launch} {e : Env} {R : Room} {s : State} {m : MethodId} {args : Array Value} {below : List Frame} {meth : Method} {c : Code} {T : State} {locs : List Loc} {cells slots : Nat}
theorem mn_stand (X : Stand p l e R s m args below meth c T locs cells slots) (cA cC : ClassId) (N K : Nat) : ∀ i, Stand p l e R s m args below meth c (mnS T cA cC N K i) locs (cells + 1 + i) (slots + N + i * K)
  | 0 => by
    have h := X.pushed (mnO cA N T.heap.size 0)
    rw [show (mnO cA N T.heap.size 0).slots.size = N from arrV_size _ _ _] at h
    rw [Nat.zero_mul]
    exact h
  | i + 1 => by
    have Xi := mn_stand X cA cC N K i
    have hlt : T.heap.size < (mnS T cA cC N K i).heap.size := by rw [mnS_sz i]; omega
    have h := (Xi.pushed (mnN cC K)).stored (a := T.heap.size) (cell := mnO cA N T.heap.size i) (by rw [State.heap_pushCell_of_lt (h := hlt)]; exact mnS_own i) i (.ref (T.heap.size + 1 + i))
    rw [mnO_next, show (mnN cC K).slots.size = K from arrV_size _ _ _] at h
    have h2 := h.dropFresh (fun x hx => by
      rw [List.mem_singleton] at hx
      rw [hx]
      exact X.heapGrown)
    rw [show slots + N + (i + 1) * K = slots + N + i * K + K by rw [Nat.succ_mul]; omega]
    exact h2
theorem mn_step (X : Stand p l e R s m args below meth c T locs cells slots) (hx : p.tables.exec = Jvm.exec) {own : String} {idx : Nat} (hown : s.vm.findClass own = some m.cls) (hcl : (Cond.classLink own idx "[[I").before args s = true)
    (hov : (Cond.arrayOver (.array .int)).before args s = true) (har : (Cond.arrayClass .int).before args s = true)
    {g : JFrame} (hg : g.method = m) (hd : decode c.code g.pc = .ok (.multianewarray idx 2, 4)) {n k : Int32} {rest : List Value} (hst : g.stack = .int k :: .int n :: rest)
    (hn : ¬ n < 0) (hk : ¬ k < 0) (b1 : n.toNatClampNeg ≤ 1000000) (b2 : k.toNatClampNeg ≤ 1000000) (hc : cells + (1 + n.toNatClampNeg) ≤ R.cells) (hs : slots + (n.toNatClampNeg + n.toNatClampNeg * k.toNatClampNeg) ≤ R.slots) :
    ∃ (vm₁ : Vm) (cA cC : ClassId), s.vm.findClass "[[I" = some cA ∧ s.vm.findClass "[I" = some cC ∧
      Stand p l e R s m args below meth c (mnS (T.setVm vm₁) cA cC n.toNatClampNeg k.toNatClampNeg n.toNatClampNeg) locs (cells + 1 + n.toNatClampNeg) (slots + n.toNatClampNeg + n.toNatClampNeg * k.toNatClampNeg) ∧
      ∀ target, Steps p.tables e below ((mnS (T.setVm vm₁) cA cC n.toNatClampNeg k.toNatClampNeg n.toNatClampNeg).setTop { g with pc := g.pc + 4, stack := .ref T.heap.size :: rest }) target → Steps p.tables e below (T.setTop g) target := by
  subst hg
  have hpl : e.platform.magicAccessors = ({} : Platform).magicAccessors := by rw [X.admits.platform]
  obtain ⟨cC, cA, kA, hC, hkA, hkdA, hA⟩ := ov_arr hov
  obtain ⟨cC2, kC, cc, hC2, hkC, hkdC⟩ := Cond.arrayClass_spec har
  have e1 : cC2 = cC := Option.some.inj (hC2.symm.trans hC)
  subst e1
  obtain ⟨c0, hc0, hlk⟩ := Cond.classLink_spec hown hcl e.platform hpl
  have e2 : c0 = cA := Option.some.inj (hc0.symm.trans hA)
  subst e2
  obtain ⟨hg1, hw1, -⟩ := State.classEntry (e := e) X.warmed hlk
  generalize T.vm.noted g.method.cls idx (.cls c0) = vm₁ at hg1 hw1
  obtain ⟨kA1, hkA1, eA⟩ := hw1.alike.2.2 _ _ hkA
  obtain ⟨kC1, hkC1, eC⟩ := hw1.alike.2.2 _ _ hkC
  have hkdA1 : kA1.kind = .array cC2 (.array .int) := by rw [eA]; exact hkdA
  have hkdC1 : kC1.kind = .array cc .int := by rw [eC]; exact hkdC
  have X1 := mn_stand (X.noted hw1) c0 cC2 n.toNatClampNeg k.toNatClampNeg n.toNatClampNeg
  obtain ⟨r1, r2⟩ := X.roomAbove hc hs
  refine ⟨vm₁, c0, cC2, hA, hC, X1, fun target hgo => ?_⟩
  have l1 := Launch.admits_arrayLengthLimit X.admits
  have l2 := Launch.admits_maxHeapBytes X.admits
  jvm_step X.here [hx, hd]
  simp only [multianewarray.sem, wp_bind', W.resolveClassAt_links (State.method?_setTop g X.here.top) hg1]
  rw [W.popN, if_neg (by decide)]
  refine ⟨g, State.topJava?_setTop' (s := T.setVm vm₁) g X.here.top, [.int n, .int k], rest, rfl, hst, ?_⟩
  simp only [List.mapM_cons, List.mapM_nil, wp_bind', wp_pure']
  refine wp_mn3 (kA := kA1) (kC := kC1) (cC := cC2) (cc := cc) hkA1 hkdA1 hkC1 hkdC1 hn hk (by rw [l1]; omega) (by rw [l2]; omega) (by rw [l1]; omega) (by rw [l2]; omega) (by show T.heap.size + 1 + _ ≤ _; omega) (by show T.slotsUsed + _ + _ ≤ _; omega) (fun d' acts' => ?_)
  have eS : ((T.setTop g).setVm vm₁).setTop { g with stack := rest } = (T.setVm vm₁).setTop { g with stack := rest } := by
    show ((T.setVm vm₁).setTop g).setTop _ = _
    rw [State.setTop_setTop]
  rw [eS, mnS_top]
  simp only [wp_bind', W.mark, W.pushRef, State.topJava?_setTop' _ X1.here.top, Option.some.injEq, exists_eq_left', State.setTop_setTop, State.heap_setTop]
  intro acts2
  simp [jvm, X1.here.top]
  exact hgo
end MNX
