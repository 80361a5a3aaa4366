/-! The check of a code table, and the soundness of the walk. -/
def am_tab : Nat → List Jvm.Cond
  | 0 => k2_sels lw_privs
  | 1 => tables_1_1
  | 2 => tables_1_2
  | 3 => tables_1_3
  | 4 => tables_1_4
  | 5 => tables_1_5
  | 6 => tables_1_6
  | 7 => tables_1_7
  | 8 => tables_1_8
  | _ => []
theorem am_tab_in {c : Jvm.Cond} : ∀ t, c ∈ am_tab t → c ∈ lw_tbl := by
  intro t h
  show c ∈ k2_sels lw_privs ++ (tables_1_1 ++ (tables_1_2 ++ (tables_1_3 ++ (tables_1_4 ++ (tables_1_5 ++ (tables_1_6 ++ (tables_1_7 ++ tables_1_8)))))))
  simp only [List.mem_append]
  match t, h with
  | 0, h => exact Or.inl h
  | 1, h => exact Or.inr (Or.inl h)
  | 2, h => exact Or.inr (Or.inr (Or.inl h))
  | 3, h => exact Or.inr (Or.inr (Or.inr (Or.inl h)))
  | 4, h => exact Or.inr (Or.inr (Or.inr (Or.inr (Or.inl h))))
  | 5, h => exact Or.inr (Or.inr (Or.inr (Or.inr (Or.inr (Or.inl h)))))
  | 6, h => exact Or.inr (Or.inr (Or.inr (Or.inr (Or.inr (Or.inr (Or.inl h))))))
  | 7, h => exact Or.inr (Or.inr (Or.inr (Or.inr (Or.inr (Or.inr (Or.inr (Or.inl h)))))))
  | 8, h => exact Or.inr (Or.inr (Or.inr (Or.inr (Or.inr (Or.inr (Or.inr (Or.inr h)))))))
  | _ + 9, h => exact absurd h List.not_mem_nil
/-- the word at that place of a table: w is 1000 times the table and the place -/
def am_at (w : Nat) (c : Jvm.Cond) : Bool := decide ((am_tab (w / 1000))[w % 1000]? = some c) && goodWord c
theorem am_at_in {w : Nat} {c : Jvm.Cond} (h : am_at w c = true) : c ∈ am_BIG := by
  unfold am_at at h
  rw [Bool.and_eq_true, decide_eq_true_eq] at h
  exact List.mem_filter.mpr ⟨am_tab_in _ (List.mem_of_getElem? h.1), h.2⟩
def am_dc (M : MD) (pc : Nat) (ins : Instr) (nx len : Nat) : Bool := decide (decode M.2.2.1 pc = .ok (ins, len)) && nx == pc + len
def am_fck (M : MD) (idx c f w : Nat) : Bool := match vwCl[c]? with
  | some r => Nat.blt f r.2.2 && am_at w (.fieldLink M.1 idx (r.2.1 f).1 (r.2.1 f).2.1 (r.2.1 f).2.2.1)
  | none => false
def am_pck (M : MD) (c f : Nat) : Bool := match vwCl[c]? with
  | some r => !(r.2.1 f).2.2.2 || (decide (M.2.1.name = "<init>") && decide ((r.2.1 f).1 = M.1))
  | none => false
def am_mck (M : MD) : Bool := goodWord (.code M.2.1 M.2.2.1 M.2.2.2.1 M.2.2.2.2.1) && (decide (M.2.1.cls = M.1) && (decide (M.2.1.cls ≠ "java/lang/invoke/MethodHandle") && (decide (M.2.1.cls ≠ "java/lang/invoke/VarHandle") && (decide ((parseMethodDescriptor M.2.1.desc).map (fun d => d.parameters.length) = some M.2.2.2.2.2) && Nat.ble M.2.2.2.1 29))))
def am_swk (pc : Nat) (lo : Int) : List Nat → List Int → Nat → Bool
  | [], [], _ => true
  | key :: t :: ks, off :: offs, i => decide ((key : Int) = lo + (i : Int)) && (decide ((pc : Int) + off = (t : Int)) && am_swk pc lo ks offs (i + 1))
  | _, _, _ => false
def am_chk (M : MD) (pc : Nat) (ce : CE) : Bool := match ce with
  | (ins, nx, _, ann, M2) => match ins with
    | .iconst z => am_dc M pc (.iconst z) nx 1
    | .bipush z => am_dc M pc (.bipush z) nx 2 && decide ((Int8.ofInt z).toInt32 = zI z)
    | .sipush z => am_dc M pc (.sipush z) nx 3 && decide ((Int16.ofInt z).toInt32 = zI z)
    | .ldc i => (match ann with
      | 0 :: z :: w :: _ => am_dc M pc (.ldc i) nx 2 && am_at w (.constant M.1 i (zI z))
      | 0 :: _ => false
      | _ => true)
    | .ldc2_w i => (match ann with
      | z :: w :: _ => am_dc M pc (.ldc2_w i) nx 3 && am_at w (.constantLong M.1 i (zL z))
      | _ => false)
    | .lconst j => (match ann with
      | z :: _ => am_dc M pc (.lconst j) nx 1 && decide (Int64.ofNat (j : Nat) = zL z)
      | _ => false)
    | .ifCond c off => (match ann with
      | t :: _ => am_dc M pc (.ifCond c off) nx 3 && decide ((pc : Int) + off = (t : Int))
      | _ => false)
    | .if_icmp c off => (match ann with
      | t :: _ => am_dc M pc (.if_icmp c off) nx 3 && decide ((pc : Int) + off = (t : Int))
      | _ => false)
    | .if_acmp c off => (match ann with
      | t :: _ => am_dc M pc (.if_acmp c off) nx 3 && decide ((pc : Int) + off = (t : Int))
      | _ => false)
    | .goto off => (match ann with
      | t :: _ => am_dc M pc (.goto off) nx 3 && decide ((pc : Int) + off = (t : Int))
      | _ => false)
    | .ifnull off => (match ann with
      | t :: _ => am_dc M pc (.ifnull off) nx 3 && decide ((pc : Int) + off = (t : Int))
      | _ => false)
    | .ifnonnull off => (match ann with
      | t :: _ => am_dc M pc (.ifnonnull off) nx 3 && decide ((pc : Int) + off = (t : Int))
      | _ => false)
    | .getfield idx => (match ann with
      | c :: f :: w :: _ => am_dc M pc (.getfield idx) nx 3 && am_fck M idx c f w
      | _ => false)
    | .putfield idx => (match ann with
      | c :: f :: w :: _ => am_dc M pc (.putfield idx) nx 3 && (am_fck M idx c f w && am_pck M c f)
      | _ => false)
    | .tableswitch dflt lo hi offs => (match ann with
      | dfl :: ks => decide (decode M.2.2.1 pc = .ok (.tableswitch dflt lo hi offs, nx - pc)) && (decide ((pc : Int) + dflt = (dfl : Int)) && (decide (hi - lo < offs.size) && am_swk pc lo ks offs.toList 0))
      | _ => false)
    | .invokevirtual idx => (match ann with
      | np :: c :: _ :: _ :: w1 :: w2 :: w3 :: w4 :: w5 :: _ => am_dc M pc (.invokevirtual idx) nx 3 && (np == M2.2.2.2.2.2 + 1 && ((match vwCl[c]? with
        | some r => decide (r.1 = M2.1)
        | none => false) && (am_mck M2 && (am_at w1 (.methodLink M.1 idx M2.2.1) && (am_at w2 (.instanceMethod M2.2.1) && (am_at w3 (.selects M2.1 M2.2.1 M2.2.1) && (am_at w4 (.initialized M2.1) && am_at w5 (.code M2.2.1 M2.2.2.1 M2.2.2.2.1 M2.2.2.2.2.1))))))))
      | [] => true
      | _ => false)
    | .invokestatic idx => (match ann with
      | 0 :: np :: _ :: _ :: w1 :: w2 :: w4 :: w5 :: _ => am_dc M pc (.invokestatic idx) nx 3 && (np == M2.2.2.2.2.2 && (am_mck M2 && (am_at w1 (.methodLink M.1 idx M2.2.1) && (am_at w2 (.static M2.2.1) && (am_at w4 (.initialized M2.1) && am_at w5 (.code M2.2.1 M2.2.2.1 M2.2.2.2.1 M2.2.2.2.2.1))))))
      | 1 :: w1 :: w2 :: w3 :: w4 :: _ => am_dc M pc (.invokestatic idx) nx 3 && (am_at w1 (.methodLink M.1 idx Lib.Math.max.name) && (am_at w2 (.static Lib.Math.max.name) && (am_at w3 (.initialized "java/lang/Math") && am_at w4 (.code Lib.Math.max.name Lib.Math.max.code 2 (some .int)))))
      | 2 :: w1 :: w2 :: w3 :: w4 :: _ => am_dc M pc (.invokestatic idx) nx 3 && (am_at w1 (.methodLink M.1 idx Lib.Math.min.name) && (am_at w2 (.static Lib.Math.min.name) && (am_at w3 (.initialized "java/lang/Math") && am_at w4 (.code Lib.Math.min.name Lib.Math.min.code 2 (some .int)))))
      | 3 :: w1 :: w2 :: w3 :: w4 :: _ => am_dc M pc (.invokestatic idx) nx 3 && (am_at w1 (.methodLink M.1 idx Lib.Math.abs.name) && (am_at w2 (.static Lib.Math.abs.name) && (am_at w3 (.initialized "java/lang/Math") && am_at w4 (.code Lib.Math.abs.name Lib.Math.abs.code 1 (some .int)))))
      | [] => true
      | 9 :: _ => true
      | _ => false)
    | .invokespecial idx => (match ann with
      | 0 :: np :: _ :: _ :: w1 :: w2 :: w4 :: w5 :: _ => am_dc M pc (.invokespecial idx) nx 3 && (np == M2.2.2.2.2.2 + 1 && (am_mck M2 && (decide (M2.2.1.name = "<init>") && (decide (M2.2.2.2.2.1 = none) && (am_at w1 (.methodLink M.1 idx M2.2.1) && (am_at w2 (.instanceMethod M2.2.1) && (am_at w4 (.initialized M2.1) && am_at w5 (.code M2.2.1 M2.2.2.1 M2.2.2.2.1 M2.2.2.2.2.1))))))))
      | 1 :: w1 :: w2 :: w4 :: _ => am_dc M pc (.invokespecial idx) nx 3 && (am_at w1 (.methodLink M.1 idx Lib.objectInit) && (am_at w2 (.instanceMethod Lib.objectInit) && am_at w4 (.code Lib.objectInit ⟨#[0xb1]⟩ 1 none)))
      | [] => true
      | 2 :: _ => true
      | _ => false)
    | .new idx => (match ann with
      | c :: N :: w1 :: w2 :: w3 :: _ => am_dc M pc (.new idx) nx 3 && (match vwCl[c]? with
        | some r => r.2.2 == N && (am_at w1 (.classLink M.1 idx r.1) && (am_at w2 (.instantiable r.1 r.2.2) && am_at w3 (.initialized r.1)))
        | none => false)
      | [] => true
      | _ => false)
    | .newarray ty => (match ann with
      | c :: N :: w :: _ => am_dc M pc (.newarray ty) nx 2 && (match am_ck c with
        | (a + 1, N2, _, _, _) => Nat.blt a 3 && (N2 == N && (Nat.ble N 1000000 && (decide (ty = am_atype a) && am_at w (.arrayClass (newarray.typeOf (am_atype a))))))
        | _ => false)
      | _ => false)
    | .ireturn => (match ann with
      | 0 :: _ => am_dc M pc .ireturn nx 1 && decide (M.2.2.2.2.1 = some .int)
      | 1 :: _ => am_dc M pc .ireturn nx 1 && decide (M.2.2.2.2.1 = some .boolean)
      | _ => false)
    | .return_ => am_dc M pc .return_ nx 1 && decide (M.2.2.2.2.1 = none)
    | .lreturn => am_dc M pc .lreturn nx 1 && decide (M.2.2.2.2.1 = some .long)
    | .areturn => am_dc M pc .areturn nx 1 && (match M.2.2.2.2.1 with
      | some (.object _) => true
      | _ => false)
    | .iadd => am_dc M pc .iadd nx 1
    | .isub => am_dc M pc .isub nx 1
    | .imul => am_dc M pc .imul nx 1
    | .iand => am_dc M pc .iand nx 1
    | .ior => am_dc M pc .ior nx 1
    | .ixor => am_dc M pc .ixor nx 1
    | .ishl => am_dc M pc .ishl nx 1
    | .ishr => am_dc M pc .ishr nx 1
    | .iushr => am_dc M pc .iushr nx 1
    | .idiv => am_dc M pc .idiv nx 1
    | .irem => am_dc M pc .irem nx 1
    | .ineg => am_dc M pc .ineg nx 1
    | .i2l => am_dc M pc .i2l nx 1
    | .ladd => am_dc M pc .ladd nx 1
    | .lsub => am_dc M pc .lsub nx 1
    | .lmul => am_dc M pc .lmul nx 1
    | .lcmp => am_dc M pc .lcmp nx 1
    | .aconst_null => am_dc M pc .aconst_null nx 1
    | .dup => am_dc M pc .dup nx 1
    | .dup2 => am_dc M pc .dup2 nx 1
    | .pop => am_dc M pc .pop nx 1
    | .iaload => am_dc M pc .iaload nx 1
    | .baload => am_dc M pc .baload nx 1
    | .laload => am_dc M pc .laload nx 1
    | .iastore => am_dc M pc .iastore nx 1
    | .bastore => am_dc M pc .bastore nx 1
    | .lastore => am_dc M pc .lastore nx 1
    | .aaload => am_dc M pc .aaload nx 1
    | .aastore => am_dc M pc .aastore nx 1
    | .arraylength => am_dc M pc .arraylength nx 1
    | .iload_n j => am_dc M pc (.iload_n j) nx 1
    | .lload_n j => am_dc M pc (.lload_n j) nx 1
    | .aload_n j => am_dc M pc (.aload_n j) nx 1
    | .istore_n j => am_dc M pc (.istore_n j) nx 1
    | .lstore_n j => am_dc M pc (.lstore_n j) nx 1
    | .astore_n j => am_dc M pc (.astore_n j) nx 1
    | .iload j => am_dc M pc (.iload j) nx 2
    | .lload j => am_dc M pc (.lload j) nx 2
    | .aload j => am_dc M pc (.aload j) nx 2
    | .istore j => am_dc M pc (.istore j) nx 2
    | .lstore j => am_dc M pc (.lstore j) nx 2
    | .astore j => am_dc M pc (.astore j) nx 2
    | .iinc j z => am_dc M pc (.iinc j z) nx 3
    | _ => true
theorem am_dc_ok {M : MD} {pc nx len : Nat} {ins : Instr} (h : am_dc M pc ins nx len = true) : decode M.2.2.1 pc = .ok (ins, len) ∧ nx = pc + len := by
  unfold am_dc at h
  rw [Bool.and_eq_true, decide_eq_true_eq, beq_iff_eq] at h
  exact h
theorem am_fck_ok {M : MD} {idx c f w : Nat} (h : am_fck M idx c f w = true) : ∃ r : vw_C, vwCl[c]? = some r ∧ f < r.2.2 ∧ Jvm.Cond.fieldLink M.1 idx (r.2.1 f).1 (r.2.1 f).2.1 (r.2.1 f).2.2.1 ∈ am_BIG := by
  unfold am_fck at h
  cases hr : vwCl[c]? with
  | none => rw [hr] at h; cases h
  | some r =>
    rw [hr] at h
    simp only [Bool.and_eq_true] at h
    exact ⟨r, rfl, Nat.blt_eq.mp h.1, am_at_in h.2⟩
theorem am_pck_ok {M : MD} {c f : Nat} {r : vw_C} (hr : vwCl[c]? = some r) (h : am_pck M c f = true) : (r.2.1 f).2.2.2 = false ∨ (r.2.1 f).2.2.2 = true ∧ M.2.1.name = "<init>" ∧ (r.2.1 f).1 = M.1 := by
  unfold am_pck at h
  rw [hr] at h
  simp only [Bool.or_eq_true, Bool.and_eq_true, decide_eq_true_eq, Bool.not_eq_true'] at h
  rcases h with h | h
  · exact Or.inl h
  · cases hb : (r.2.1 f).2.2.2 with
    | false => exact Or.inl rfl
    | true => exact Or.inr ⟨rfl, h⟩
theorem am_mck_ok {M : MD} {w : Nat} (h : am_mck M = true) (h5 : am_at w (.code M.2.1 M.2.2.1 M.2.2.2.1 M.2.2.2.2.1) = true) : am_Mok M := by
  unfold am_mck at h
  simp only [Bool.and_eq_true, decide_eq_true_eq] at h
  exact ⟨am_at_in h5, h.2.1, h.2.2.1, h.2.2.2.1, h.2.2.2.2.1, Nat.le_of_ble_eq_true h.2.2.2.2.2⟩
theorem am_get_ok : ∀ {L : LL} {i : Nat} {K : AV → Prop}, am_get L i K → ∃ v, L[i]? = some (some v) ∧ K v
  | [], _, _, h => h.elim
  | some v :: _, 0, _, h => ⟨v, rfl, h⟩
  | none :: _, 0, _, h => h.elim
  | some _ :: xs, i + 1, K, h => am_get_ok (L := xs) (i := i) (K := K) h
  | none :: xs, i + 1, K, h => am_get_ok (L := xs) (i := i) (K := K) h
theorem am_set_ok : ∀ {L : LL} {i : Nat} {o : Option AV} {K : LL → Prop}, am_set L i o K → i < L.length ∧ K (am_st L i o)
  | [], _, _, _, h => h.elim
  | _ :: xs, 0, o, K, h => ⟨by simp, h⟩
  | x :: xs, 1, o, K, h => by
    obtain ⟨h1, h2⟩ := am_set_ok (L := xs) (i := 0) (o := o) h
    refine ⟨by simpa using h1, ?_⟩
    match x, h2 with
    | some (.inr (.inl _)), h2 => exact h2
    | some (.inl _), h2 => exact h2
    | some (.inr (.inr _)), h2 => exact h2
    | none, h2 => exact h2
  | x :: xs, n + 2, o, K, h => by
    obtain ⟨h1, h2⟩ := am_set_ok (L := xs) (i := n + 1) (o := o) h
    exact ⟨by simp only [List.length_cons]; omega, h2⟩
theorem am_set2_ok : ∀ {L : LL} {i : Nat} {K : LL → Prop}, am_set2 L i K → i < L.length ∧ K (L.set i none)
  | [], _, _, h => h.elim
  | _ :: xs, 0, K, h => ⟨by simp, h⟩
  | x :: xs, n + 1, K, h => by
    obtain ⟨h1, h2⟩ := am_set2_ok (L := xs) (i := n) h
    exact ⟨by simpa using h1, h2⟩
theorem am_pop_ok : ∀ {n : Nat} {st acc : List AV} {K : List AV → List AV → Prop}, am_pop n st acc K → ∃ xs rest, st = xs ++ rest ∧ xs.length = n ∧ K (xs.reverse ++ acc) rest
  | 0, st, acc, K, h => ⟨[], st, rfl, rfl, h⟩
  | _ + 1, [], _, _, h => h.elim
  | n + 1, v :: st, acc, K, h => by
    obtain ⟨xs, rest, h1, h2, h3⟩ := am_pop_ok (n := n) (st := st) (acc := v :: acc) h
    exact ⟨v :: xs, rest, by rw [h1]; rfl, by simp [h2], by simpa using h3⟩
theorem am_sidxK_ok {b m i : Nat} {K : Nat → Prop} (h : am_sidxK b m i K) : K (am_sidx b m i) := by
  match m, h with
  | 0, h => exact h
  | _ + 1, h => exact h
theorem am_aidxK_ok {b j : Nat} {K : Nat → Prop} (h : am_aidxK b j K) : K (am_aidx b j) := by
  match b, h with
  | 0, h => exact h
  | _ + 1, h => exact h
theorem am_swk_ok {pc : Nat} {lo : Int} {x : Int} {K : Nat → Prop} : ∀ {ks : List Nat} {offs : List Int} {i : Nat}, am_swk pc lo ks offs i = true → am_sw ks x K → ∀ j, j < offs.length → x = lo + ((i + j : Nat) : Int) → ∃ off t, offs[j]? = some off ∧ (pc : Int) + off = ((t : Nat) : Int) ∧ K t
  | [], [], _, _, _, j, hj, _ => absurd hj (by simp)
  | key :: t :: ks, off :: offs, i, h, hs, j, hj, hx => by
    simp only [am_swk, Bool.and_eq_true, decide_eq_true_eq] at h
    obtain ⟨h1, h2, h3⟩ := h
    match j, hj, hx with
    | 0, _, hx => exact ⟨off, t, rfl, h2, hs.1 (by rw [hx, h1]; simp)⟩
    | j + 1, hj, hx =>
      obtain ⟨off2, t2, e1, e2, e3⟩ := am_swk_ok (ks := ks) (offs := offs) (i := i + 1) h3 hs.2 j (by simpa using hj) (by rw [hx]; congr 2; omega)
      exact ⟨off2, t2, by simpa using e1, e2, e3⟩
  | [], _ :: _, _, h, _, _, _, _ => by cases h
  | [_], [], _, h, _, _, _, _ => by cases h
  | [_], _ :: _, _, h, _, _, _, _ => by cases h
  | _ :: _ :: _, [], _, h, _, _, _, _ => by cases h
theorem am_nmV_ok {nm : Bool} {x : Int32} {K : Int32 → Prop} (h : am_nmV nm x K) : K x := by
  cases nm
  · exact h
  · exact h x rfl
theorem am_nmI_ok {nm : Bool} {I : II} {K : II → Prop} (h : am_nmI nm I K) : K I := by
  cases nm
  · exact h
  · exact h I rfl
theorem am_cond {b : Bool} {A : Prop} (h : cond b A False) : b = true ∧ A := by
  cases b with
  | false => exact h.elim
  | true => exact ⟨rfl, h⟩
set_option maxHeartbeats 4000000 in
theorem am_hop_ok {Γ : AMG} {M : MD} {Q : QQ} {d k n pc : Nat} {L : LL} {st : List AV} {I : II} {Lg : LJ} {R : RR} {G : GG} {ce : CE} {nm : Bool} {go : GO} (hv : am_chk M pc ce = true) (hgo : ∀ k n pc L st I Lg R G, go k n pc L st I Lg R G → am_J Γ M Q d k n pc L st I Lg R G)
    (h : am_hop Γ M Q nm d pc ce go k n L st I Lg R G) : am_J Γ M Q d k n pc L st I Lg R G := by
  obtain ⟨ins, nx, hdb, ann, M2⟩ := ce
  cases ins
  case iconst z =>
    obtain ⟨hd, rfl⟩ := am_dc_ok hv
    exact ar_iconst hd (hgo _ _ _ _ _ _ _ _ _ h)
  case bipush z =>
    have hv2 := Bool.and_eq_true_iff.mp hv
    obtain ⟨hd, rfl⟩ := am_dc_ok hv2.1
    exact ar_bipush (of_decide_eq_true hv2.2) hd (hgo _ _ _ _ _ _ _ _ _ h)
  case sipush z =>
    have hv2 := Bool.and_eq_true_iff.mp hv
    obtain ⟨hd, rfl⟩ := am_dc_ok hv2.1
    exact ar_sipush (of_decide_eq_true hv2.2) hd (hgo _ _ _ _ _ _ _ _ _ h)
  case ldc i =>
    match ann, hv, h with
    | 0 :: z :: w :: _, hv, h =>
      have hv2 := Bool.and_eq_true_iff.mp hv
      obtain ⟨hd, rfl⟩ := am_dc_ok hv2.1
      exact ar_ldc (am_at_in hv2.2) hd (hgo _ _ _ _ _ _ _ _ _ h)
    | [], _, h => exact h
    | [0], hv, _ => cases hv
    | [0, _], hv, _ => cases hv
    | (_ + 1) :: _, _, h => exact h
  case ldc2_w i =>
    match ann, hv, h with
    | z :: w :: _, hv, h =>
      have hv2 := Bool.and_eq_true_iff.mp hv
      obtain ⟨hd, rfl⟩ := am_dc_ok hv2.1
      exact ar_ldc2 (am_at_in hv2.2) hd (hgo _ _ _ _ _ _ _ _ _ h)
    | [], hv, _ => cases hv
    | [_], hv, _ => cases hv
  case lconst j =>
    match ann, hv, h with
    | z :: _, hv, h =>
      have hv2 := Bool.and_eq_true_iff.mp hv
      obtain ⟨hd, rfl⟩ := am_dc_ok hv2.1
      exact ar_lconst (of_decide_eq_true hv2.2) hd (hgo _ _ _ _ _ _ _ _ _ h)
    | [], hv, _ => cases hv
  case iload_n j =>
    obtain ⟨hd, rfl⟩ := am_dc_ok hv
    obtain ⟨v, hg, h⟩ := am_get_ok h
    match v, hg, h with
    | .inl x, hg, h => exact ar_iload_n hg hd (hgo _ _ _ _ _ _ _ _ _ h)
    | .inr _, _, h => exact h.elim
  case iload j =>
    obtain ⟨hd, rfl⟩ := am_dc_ok hv
    obtain ⟨v, hg, h⟩ := am_get_ok h
    match v, hg, h with
    | .inl x, hg, h => exact ar_iload hg hd (hgo _ _ _ _ _ _ _ _ _ h)
    | .inr _, _, h => exact h.elim
  case lload_n j =>
    obtain ⟨hd, rfl⟩ := am_dc_ok hv
    obtain ⟨v, hg, h⟩ := am_get_ok h
    match v, hg, h with
    | .inr (.inl x), hg, h => exact ar_lload_n hg hd (hgo _ _ _ _ _ _ _ _ _ h)
    | .inl _, _, h => exact h.elim
    | .inr (.inr _), _, h => exact h.elim
  case lload j =>
    obtain ⟨hd, rfl⟩ := am_dc_ok hv
    obtain ⟨v, hg, h⟩ := am_get_ok h
    match v, hg, h with
    | .inr (.inl x), hg, h => exact ar_lload hg hd (hgo _ _ _ _ _ _ _ _ _ h)
    | .inl _, _, h => exact h.elim
    | .inr (.inr _), _, h => exact h.elim
  case aload_n j =>
    obtain ⟨hd, rfl⟩ := am_dc_ok hv
    obtain ⟨v, hg, h⟩ := am_get_ok h
    match v, hg, h with
    | .inr (.inr x), hg, h => exact ar_aload_n hg hd (hgo _ _ _ _ _ _ _ _ _ h)
    | .inl _, _, h => exact h.elim
    | .inr (.inl _), _, h => exact h.elim
  case aload j =>
    obtain ⟨hd, rfl⟩ := am_dc_ok hv
    obtain ⟨v, hg, h⟩ := am_get_ok h
    match v, hg, h with
    | .inr (.inr x), hg, h => exact ar_aload hg hd (hgo _ _ _ _ _ _ _ _ _ h)
    | .inl _, _, h => exact h.elim
    | .inr (.inl _), _, h => exact h.elim
  case istore_n j =>
    obtain ⟨hd, rfl⟩ := am_dc_ok hv
    match st, h with
    | .inl x :: r, h =>
      obtain ⟨h1, h2⟩ := am_set_ok (am_nmV_ok h)
      exact ar_istore_n h1 hd (hgo _ _ _ _ _ _ _ _ _ h2)
    | [], h => exact h.elim
    | .inr _ :: _, h => exact h.elim
  case istore j =>
    obtain ⟨hd, rfl⟩ := am_dc_ok hv
    match st, h with
    | .inl x :: r, h =>
      obtain ⟨h1, h2⟩ := am_set_ok (am_nmV_ok h)
      exact ar_istore h1 hd (hgo _ _ _ _ _ _ _ _ _ h2)
    | [], h => exact h.elim
    | .inr _ :: _, h => exact h.elim
  case astore_n j =>
    obtain ⟨hd, rfl⟩ := am_dc_ok hv
    match st, h with
    | .inr (.inr x) :: r, h =>
      obtain ⟨h1, h2⟩ := am_set_ok h
      exact ar_astore_n h1 hd (hgo _ _ _ _ _ _ _ _ _ h2)
    | [], h => exact h.elim
    | .inl _ :: _, h => exact h.elim
    | .inr (.inl _) :: _, h => exact h.elim
  case astore j =>
    obtain ⟨hd, rfl⟩ := am_dc_ok hv
    match st, h with
    | .inr (.inr x) :: r, h =>
      obtain ⟨h1, h2⟩ := am_set_ok h
      exact ar_astore h1 hd (hgo _ _ _ _ _ _ _ _ _ h2)
    | [], h => exact h.elim
    | .inl _ :: _, h => exact h.elim
    | .inr (.inl _) :: _, h => exact h.elim
  case lstore_n j =>
    obtain ⟨hd, rfl⟩ := am_dc_ok hv
    match st, h with
    | .inr (.inl x) :: r, h =>
      obtain ⟨h1, h2⟩ := am_set_ok h
      obtain ⟨h3, h4⟩ := am_set2_ok h2
      rw [am_st_len] at h3
      exact ar_lstore_n h3 hd (hgo _ _ _ _ _ _ _ _ _ h4)
    | [], h => exact h.elim
    | .inl _ :: _, h => exact h.elim
    | .inr (.inr _) :: _, h => exact h.elim
  case lstore j =>
    obtain ⟨hd, rfl⟩ := am_dc_ok hv
    match st, h with
    | .inr (.inl x) :: r, h =>
      obtain ⟨h1, h2⟩ := am_set_ok h
      obtain ⟨h3, h4⟩ := am_set2_ok h2
      rw [am_st_len] at h3
      exact ar_lstore h3 hd (hgo _ _ _ _ _ _ _ _ _ h4)
    | [], h => exact h.elim
    | .inl _ :: _, h => exact h.elim
    | .inr (.inr _) :: _, h => exact h.elim
  case iinc j z =>
    obtain ⟨hd, rfl⟩ := am_dc_ok hv
    obtain ⟨v, hg, h⟩ := am_get_ok h
    match v, hg, h with
    | .inl x, hg, h =>
      obtain ⟨h1, h2⟩ := am_set_ok (am_nmV_ok h)
      exact ar_iinc hg hd (hgo _ _ _ _ _ _ _ _ _ h2)
    | .inr _, _, h => exact h.elim
  case iadd =>
    obtain ⟨hd, rfl⟩ := am_dc_ok hv
    match st, h with
    | .inl y :: .inl x :: r, h =>
      exact ar_iadd hd (hgo _ _ _ _ _ _ _ _ _ h)
    | [], h => exact h.elim
    | [.inl _], h => exact h.elim
    | .inr _ :: _, h => exact h.elim
    | .inl _ :: .inr _ :: _, h => exact h.elim
  case isub =>
    obtain ⟨hd, rfl⟩ := am_dc_ok hv
    match st, h with
    | .inl y :: .inl x :: r, h =>
      exact ar_isub hd (hgo _ _ _ _ _ _ _ _ _ h)
    | [], h => exact h.elim
    | [.inl _], h => exact h.elim
    | .inr _ :: _, h => exact h.elim
    | .inl _ :: .inr _ :: _, h => exact h.elim
  case imul =>
    obtain ⟨hd, rfl⟩ := am_dc_ok hv
    match st, h with
    | .inl y :: .inl x :: r, h =>
      exact ar_imul hd (hgo _ _ _ _ _ _ _ _ _ h)
    | [], h => exact h.elim
    | [.inl _], h => exact h.elim
    | .inr _ :: _, h => exact h.elim
    | .inl _ :: .inr _ :: _, h => exact h.elim
  case iand =>
    obtain ⟨hd, rfl⟩ := am_dc_ok hv
    match st, h with
    | .inl y :: .inl x :: r, h =>
      exact ar_iand hd (hgo _ _ _ _ _ _ _ _ _ h)
    | [], h => exact h.elim
    | [.inl _], h => exact h.elim
    | .inr _ :: _, h => exact h.elim
    | .inl _ :: .inr _ :: _, h => exact h.elim
  case ior =>
    obtain ⟨hd, rfl⟩ := am_dc_ok hv
    match st, h with
    | .inl y :: .inl x :: r, h =>
      exact ar_ior hd (hgo _ _ _ _ _ _ _ _ _ h)
    | [], h => exact h.elim
    | [.inl _], h => exact h.elim
    | .inr _ :: _, h => exact h.elim
    | .inl _ :: .inr _ :: _, h => exact h.elim
  case ixor =>
    obtain ⟨hd, rfl⟩ := am_dc_ok hv
    match st, h with
    | .inl y :: .inl x :: r, h =>
      exact ar_ixor hd (hgo _ _ _ _ _ _ _ _ _ h)
    | [], h => exact h.elim
    | [.inl _], h => exact h.elim
    | .inr _ :: _, h => exact h.elim
    | .inl _ :: .inr _ :: _, h => exact h.elim
  case ishl =>
    obtain ⟨hd, rfl⟩ := am_dc_ok hv
    match st, h with
    | .inl y :: .inl x :: r, h =>
      exact ar_ishl hd (hgo _ _ _ _ _ _ _ _ _ h)
    | [], h => exact h.elim
    | [.inl _], h => exact h.elim
    | .inr _ :: _, h => exact h.elim
    | .inl _ :: .inr _ :: _, h => exact h.elim
  case ishr =>
    obtain ⟨hd, rfl⟩ := am_dc_ok hv
    match st, h with
    | .inl y :: .inl x :: r, h =>
      exact ar_ishr hd (hgo _ _ _ _ _ _ _ _ _ h)
    | [], h => exact h.elim
    | [.inl _], h => exact h.elim
    | .inr _ :: _, h => exact h.elim
    | .inl _ :: .inr _ :: _, h => exact h.elim
  case iushr =>
    obtain ⟨hd, rfl⟩ := am_dc_ok hv
    match st, h with
    | .inl y :: .inl x :: r, h =>
      exact ar_iushr hd (hgo _ _ _ _ _ _ _ _ _ h)
    | [], h => exact h.elim
    | [.inl _], h => exact h.elim
    | .inr _ :: _, h => exact h.elim
    | .inl _ :: .inr _ :: _, h => exact h.elim
  case idiv =>
    obtain ⟨hd, rfl⟩ := am_dc_ok hv
    match st, h with
    | .inl y :: .inl x :: r, h =>
      exact ar_idiv h.1 hd (hgo _ _ _ _ _ _ _ _ _ h.2)
    | [], h => exact h.elim
    | [.inl _], h => exact h.elim
    | .inr _ :: _, h => exact h.elim
    | .inl _ :: .inr _ :: _, h => exact h.elim
  case irem =>
    obtain ⟨hd, rfl⟩ := am_dc_ok hv
    match st, h with
    | .inl y :: .inl x :: r, h =>
      exact ar_irem h.1 hd (hgo _ _ _ _ _ _ _ _ _ h.2)
    | [], h => exact h.elim
    | [.inl _], h => exact h.elim
    | .inr _ :: _, h => exact h.elim
    | .inl _ :: .inr _ :: _, h => exact h.elim
  case ineg =>
    obtain ⟨hd, rfl⟩ := am_dc_ok hv
    match st, h with
    | .inl x :: r, h =>
      exact ar_ineg hd (hgo _ _ _ _ _ _ _ _ _ h)
    | [], h => exact h.elim
    | .inr _ :: _, h => exact h.elim
  case i2l =>
    obtain ⟨hd, rfl⟩ := am_dc_ok hv
    match st, h with
    | .inl x :: r, h =>
      exact ar_i2l hd (hgo _ _ _ _ _ _ _ _ _ h)
    | [], h => exact h.elim
    | .inr _ :: _, h => exact h.elim
  case ladd =>
    obtain ⟨hd, rfl⟩ := am_dc_ok hv
    match st, h with
    | .inr (.inl y) :: .inr (.inl x) :: r, h =>
      exact ar_ladd hd (hgo _ _ _ _ _ _ _ _ _ h)
    | [], h => exact h.elim
    | .inl _ :: _, h => exact h.elim
    | .inr (.inr _) :: _, h => exact h.elim
    | [.inr (.inl _)], h => exact h.elim
    | .inr (.inl _) :: .inl _ :: _, h => exact h.elim
    | .inr (.inl _) :: .inr (.inr _) :: _, h => exact h.elim
  case lsub =>
    obtain ⟨hd, rfl⟩ := am_dc_ok hv
    match st, h with
    | .inr (.inl y) :: .inr (.inl x) :: r, h =>
      exact ar_lsub hd (hgo _ _ _ _ _ _ _ _ _ h)
    | [], h => exact h.elim
    | .inl _ :: _, h => exact h.elim
    | .inr (.inr _) :: _, h => exact h.elim
    | [.inr (.inl _)], h => exact h.elim
    | .inr (.inl _) :: .inl _ :: _, h => exact h.elim
    | .inr (.inl _) :: .inr (.inr _) :: _, h => exact h.elim
  case lmul =>
    obtain ⟨hd, rfl⟩ := am_dc_ok hv
    match st, h with
    | .inr (.inl y) :: .inr (.inl x) :: r, h =>
      exact ar_lmul hd (hgo _ _ _ _ _ _ _ _ _ h)
    | [], h => exact h.elim
    | .inl _ :: _, h => exact h.elim
    | .inr (.inr _) :: _, h => exact h.elim
    | [.inr (.inl _)], h => exact h.elim
    | .inr (.inl _) :: .inl _ :: _, h => exact h.elim
    | .inr (.inl _) :: .inr (.inr _) :: _, h => exact h.elim
  case lcmp =>
    obtain ⟨hd, rfl⟩ := am_dc_ok hv
    match st, h with
    | .inr (.inl y) :: .inr (.inl x) :: r, h =>
      exact ar_lcmp hd (hgo _ _ _ _ _ _ _ _ _ h)
    | [], h => exact h.elim
    | .inl _ :: _, h => exact h.elim
    | .inr (.inr _) :: _, h => exact h.elim
    | [.inr (.inl _)], h => exact h.elim
    | .inr (.inl _) :: .inl _ :: _, h => exact h.elim
    | .inr (.inl _) :: .inr (.inr _) :: _, h => exact h.elim
  case ifCond c off =>
    match ann, hv, h with
    | [], hv, _ => cases hv
    | t :: _, hv, h =>
      have hv2 := Bool.and_eq_true_iff.mp hv
      obtain ⟨hd, rfl⟩ := am_dc_ok hv2.1
      have ht := of_decide_eq_true hv2.2
      match st, h with
      | .inl x :: r, h =>
        cases c with
        | eq => exact ar_if_eq hd ht (fun q => hgo _ _ _ _ _ _ _ _ _ (h.1 q)) (fun q => hgo _ _ _ _ _ _ _ _ _ (h.2 q))
        | ne => exact ar_if_ne hd ht (fun q => hgo _ _ _ _ _ _ _ _ _ (h.1 q)) (fun q => hgo _ _ _ _ _ _ _ _ _ (h.2 q))
        | lt => exact ar_if_lt hd ht (fun q => hgo _ _ _ _ _ _ _ _ _ (h.1 q)) (fun q => hgo _ _ _ _ _ _ _ _ _ (h.2 q))
        | ge => exact ar_if_ge hd ht (fun q => hgo _ _ _ _ _ _ _ _ _ (h.1 q)) (fun q => hgo _ _ _ _ _ _ _ _ _ (h.2 q))
        | gt => exact ar_if_gt hd ht (fun q => hgo _ _ _ _ _ _ _ _ _ (h.1 q)) (fun q => hgo _ _ _ _ _ _ _ _ _ (h.2 q))
        | le => exact ar_if_le hd ht (fun q => hgo _ _ _ _ _ _ _ _ _ (h.1 q)) (fun q => hgo _ _ _ _ _ _ _ _ _ (h.2 q))
      | [], h => exact h.elim
      | .inr _ :: _, h => exact h.elim
  case if_icmp c off =>
    match ann, hv, h with
    | [], hv, _ => cases hv
    | t :: _, hv, h =>
      have hv2 := Bool.and_eq_true_iff.mp hv
      obtain ⟨hd, rfl⟩ := am_dc_ok hv2.1
      have ht := of_decide_eq_true hv2.2
      match st, h with
      | .inl y :: .inl x :: r, h =>
        cases c with
        | eq => exact ar_ic_eq hd ht (fun q => hgo _ _ _ _ _ _ _ _ _ (h.1 q)) (fun q => hgo _ _ _ _ _ _ _ _ _ (h.2 q))
        | ne => exact ar_ic_ne hd ht (fun q => hgo _ _ _ _ _ _ _ _ _ (h.1 q)) (fun q => hgo _ _ _ _ _ _ _ _ _ (h.2 q))
        | lt => exact ar_ic_lt hd ht (fun q => hgo _ _ _ _ _ _ _ _ _ (h.1 q)) (fun q => hgo _ _ _ _ _ _ _ _ _ (h.2 q))
        | ge => exact ar_ic_ge hd ht (fun q => hgo _ _ _ _ _ _ _ _ _ (h.1 q)) (fun q => hgo _ _ _ _ _ _ _ _ _ (h.2 q))
        | gt => exact ar_ic_gt hd ht (fun q => hgo _ _ _ _ _ _ _ _ _ (h.1 q)) (fun q => hgo _ _ _ _ _ _ _ _ _ (h.2 q))
        | le => exact ar_ic_le hd ht (fun q => hgo _ _ _ _ _ _ _ _ _ (h.1 q)) (fun q => hgo _ _ _ _ _ _ _ _ _ (h.2 q))
      | [], h => exact h.elim
      | [.inl _], h => exact h.elim
      | .inr _ :: _, h => exact h.elim
      | .inl _ :: .inr _ :: _, h => exact h.elim
  case goto off =>
    match ann, hv, h with
    | [], hv, _ => cases hv
    | t :: _, hv, h =>
      have hv2 := Bool.and_eq_true_iff.mp hv
      obtain ⟨hd, rfl⟩ := am_dc_ok hv2.1
      exact ar_goto hd (of_decide_eq_true hv2.2) (hgo _ _ _ _ _ _ _ _ _ h)
  case aconst_null =>
    obtain ⟨hd, rfl⟩ := am_dc_ok hv
    exact ar_null hd (hgo _ _ _ _ _ _ _ _ _ h)
  case ifnull off =>
    match ann, hv, h with
    | [], hv, _ => cases hv
    | t :: _, hv, h =>
      have hv2 := Bool.and_eq_true_iff.mp hv
      obtain ⟨hd, rfl⟩ := am_dc_ok hv2.1
      have ht := of_decide_eq_true hv2.2
      match st, h with
      | .inr (.inr none) :: r, h => exact ar_ifnullN hd ht (hgo _ _ _ _ _ _ _ _ _ h)
      | .inr (.inr (some (a, b))) :: r, h => exact ar_ifnull hd (hgo _ _ _ _ _ _ _ _ _ h)
      | [], h => exact h.elim
      | .inl _ :: _, h => exact h.elim
      | .inr (.inl _) :: _, h => exact h.elim
  case ifnonnull off =>
    match ann, hv, h with
    | [], hv, _ => cases hv
    | t :: _, hv, h =>
      have hv2 := Bool.and_eq_true_iff.mp hv
      obtain ⟨hd, rfl⟩ := am_dc_ok hv2.1
      have ht := of_decide_eq_true hv2.2
      match st, h with
      | .inr (.inr none) :: r, h => exact ar_ifnonnullN hd (hgo _ _ _ _ _ _ _ _ _ h)
      | .inr (.inr (some (a, b))) :: r, h => exact ar_ifnonnull hd ht (hgo _ _ _ _ _ _ _ _ _ h)
      | [], h => exact h.elim
      | .inl _ :: _, h => exact h.elim
      | .inr (.inl _) :: _, h => exact h.elim
  case if_acmp c off =>
    match ann, hv, h with
    | [], hv, _ => cases hv
    | t :: _, hv, h =>
      have hv2 := Bool.and_eq_true_iff.mp hv
      obtain ⟨hd, rfl⟩ := am_dc_ok hv2.1
      have ht := of_decide_eq_true hv2.2
      match st, h with
      | .inr (.inr (some (c2, i2))) :: .inr (.inr (some (c1, i1))) :: r, h =>
        obtain ⟨hb, h⟩ := am_cond h
        have hb2 := Bool.and_eq_true_iff.mp hb
        cases c with
        | eq => exact ar_aceq (Nat.blt_eq.mp hb2.1) (Nat.blt_eq.mp hb2.2) hd ht (fun q => hgo _ _ _ _ _ _ _ _ _ (h.1 q)) (fun q => hgo _ _ _ _ _ _ _ _ _ (h.2 q))
        | ne => exact ar_acne (Nat.blt_eq.mp hb2.1) (Nat.blt_eq.mp hb2.2) hd ht (fun q => hgo _ _ _ _ _ _ _ _ _ (h.1 q)) (fun q => hgo _ _ _ _ _ _ _ _ _ (h.2 q))
      | [], h => exact h.elim
      | .inl _ :: _, h => exact h.elim
      | .inr (.inl _) :: _, h => exact h.elim
      | .inr (.inr none) :: _, h => exact h.elim
      | [.inr (.inr (some _))], h => exact h.elim
      | .inr (.inr (some _)) :: .inl _ :: _, h => exact h.elim
      | .inr (.inr (some _)) :: .inr (.inl _) :: _, h => exact h.elim
      | .inr (.inr (some _)) :: .inr (.inr none) :: _, h => exact h.elim
  case dup =>
    obtain ⟨hd, rfl⟩ := am_dc_ok hv
    match st, h with
    | .inl x :: r, h => exact ar_dup (v := .inl x) (fun _ => rfl) hd (hgo _ _ _ _ _ _ _ _ _ h)
    | .inr (.inr x) :: r, h => exact ar_dup (v := .inr (.inr x)) (fun ρ => by obtain _ | ⟨a, b⟩ := x <;> rfl) hd (hgo _ _ _ _ _ _ _ _ _ h)
    | [], h => exact h.elim
    | .inr (.inl _) :: _, h => exact h.elim
  case dup2 =>
    obtain ⟨hd, rfl⟩ := am_dc_ok hv
    match st, h with
    | .inl x :: .inr (.inr y) :: r, h => exact ar_dup2 (v := .inl x) (w := .inr (.inr y)) (fun _ => rfl) (fun ρ => by obtain _ | ⟨a, b⟩ := y <;> rfl) hd (hgo _ _ _ _ _ _ _ _ _ h)
    | [], h => exact h.elim
    | .inr _ :: _, h => exact h.elim
    | [.inl _], h => exact h.elim
    | .inl _ :: .inl _ :: _, h => exact h.elim
    | .inl _ :: .inr (.inl _) :: _, h => exact h.elim
  case pop =>
    obtain ⟨hd, rfl⟩ := am_dc_ok hv
    match st, h with
    | .inl x :: r, h => exact ar_pop (v := .inl x) (fun _ => rfl) hd (hgo _ _ _ _ _ _ _ _ _ h)
    | .inr (.inr x) :: r, h => exact ar_pop (v := .inr (.inr x)) (fun ρ => by obtain _ | ⟨a, b⟩ := x <;> rfl) hd (hgo _ _ _ _ _ _ _ _ _ h)
    | [], h => exact h.elim
    | .inr (.inl _) :: _, h => exact h.elim
  case getfield idx =>
    match ann, hv, h with
    | [], hv, _ => cases hv
    | [_], hv, _ => cases hv
    | [_, _], hv, _ => cases hv
    | c' :: f :: w :: _, hv, h =>
      have hv2 := Bool.and_eq_true_iff.mp hv
      obtain ⟨hd, rfl⟩ := am_dc_ok hv2.1
      obtain ⟨r, hr, hf, hlk⟩ := am_fck_ok hv2.2
      match st, h with
      | .inr (.inr (some (c, i))) :: rest, h =>
        obtain ⟨hb, h⟩ := am_cond h
        have hb2 : c = c' := Nat.eq_of_beq_eq_true hb
        subst hb2
        rcases hs : am_slot c f with ⟨tg, v, t, b⟩
        rw [hs] at h
        match tg, h, hs with
        | 0, h, hs => exact ar_getI hr hf hlk hs hd (hgo _ _ _ _ _ _ _ _ _ h)
        | 1, h, hs => exact ar_getZ hr hf hlk hs hd (hgo _ _ _ _ _ _ _ _ _ h)
        | 2, h, hs => exact ar_getJ hr hf hlk hs hd (hgo _ _ _ _ _ _ _ _ _ h)
        | 3, h, hs =>
          obtain ⟨hin, h⟩ := am_cond h
          exact ar_getS hr hf hlk hs hin hd (hgo _ _ _ _ _ _ _ _ _ (am_sidxK_ok h))
        | 4, h, hs => exact ar_getD hr hf hlk hs hd (fun q => hgo _ _ _ _ _ _ _ _ _ (h.1 q)) (fun b q => hgo _ _ _ _ _ _ _ _ _ (h.2 b q))
        | _ + 5, h, _ => exact h.elim
      | [], h => exact h.elim
      | .inl _ :: _, h => exact h.elim
      | .inr (.inl _) :: _, h => exact h.elim
      | .inr (.inr none) :: _, h => exact h.elim
  case putfield idx =>
    match ann, hv, h with
    | [], hv, _ => cases hv
    | [_], hv, _ => cases hv
    | [_, _], hv, _ => cases hv
    | c' :: f :: w :: _, hv, h =>
      have hv2 := Bool.and_eq_true_iff.mp hv
      obtain ⟨hd, rfl⟩ := am_dc_ok hv2.1
      have hv3 := Bool.and_eq_true_iff.mp hv2.2
      obtain ⟨r, hr, hf, hlk⟩ := am_fck_ok hv3.1
      have hfin := am_pck_ok hr hv3.2
      match st, h with
      | v0 :: .inr (.inr (some (c, i))) :: rest, h =>
        obtain ⟨hb, h⟩ := am_cond h
        have hb2 : c = c' := Nat.eq_of_beq_eq_true hb
        subst hb2
        rcases hs : am_slot c f with ⟨tg, v, t, b⟩
        rw [hs] at h
        match tg, v0, h, hs with
        | 0, .inl x, h, hs => exact ar_putI hr hf hlk hfin hs hd (hgo _ _ _ _ _ _ _ _ _ (am_nmI_ok (am_nmV_ok h)))
        | 1, .inl x, h, hs => exact ar_putZ hr hf hlk hfin hs h.1 hd (hgo _ _ _ _ _ _ _ _ _ (am_nmI_ok (am_nmV_ok h.2)))
        | 2, .inr (.inl x), h, hs => exact ar_putJ hr hf hlk hfin hs hd (hgo _ _ _ _ _ _ _ _ _ h)
        | 3, .inr (.inr (some (t2, b2))), h, hs =>
          obtain ⟨⟨e1, e2⟩, h2⟩ := h
          subst e1
          exact ar_putS hr hf hlk hfin hs e2 hd (hgo _ _ _ _ _ _ _ _ _ h2)
        | 4, .inr (.inr (some (t2, b2))), h, hs =>
          obtain ⟨e1, h2⟩ := h
          subst e1
          exact ar_putD hr hf hlk hfin hs hd (hgo _ _ _ _ _ _ _ _ _ h2)
        | 4, .inr (.inr none), h, hs => exact ar_putN hr hf hlk hfin hs hd (hgo _ _ _ _ _ _ _ _ _ h)
        | 0, .inr _, h, _ => exact h.elim
        | 1, .inr _, h, _ => exact h.elim
        | 2, .inl _, h, _ => exact h.elim
        | 2, .inr (.inr _), h, _ => exact h.elim
        | 3, .inl _, h, _ => exact h.elim
        | 3, .inr (.inl _), h, _ => exact h.elim
        | 3, .inr (.inr none), h, _ => exact h.elim
        | 4, .inl _, h, _ => exact h.elim
        | 4, .inr (.inl _), h, _ => exact h.elim
        | _ + 5, _, h, _ => exact h.elim
      | [], h => exact h.elim
      | [_], h => exact h.elim
      | _ :: .inl _ :: _, h => exact h.elim
      | _ :: .inr (.inl _) :: _, h => exact h.elim
      | _ :: .inr (.inr none) :: _, h => exact h.elim
  case iaload =>
    obtain ⟨hd, rfl⟩ := am_dc_ok hv
    match st, h with
    | .inl j :: .inr (.inr (some (c, i))) :: r, h =>
      rcases hck : am_ck c with ⟨a9, N, v, t, y⟩
      dsimp only [am_hop] at h
      rw [hck] at h
      match a9, h, hck with
      | 0, h, _ => exact h
      | 1, h, hck => exact ar_iald hck h.1.1 h.1.2 hd (hgo _ _ _ _ _ _ _ _ _ h.2)
      | _ + 2, h, _ => exact h
    | [], h => exact h.elim
    | [.inl _], h => exact h.elim
    | .inr _ :: _, h => exact h.elim
    | .inl _ :: .inl _ :: _, h => exact h.elim
    | .inl _ :: .inr (.inl _) :: _, h => exact h.elim
    | .inl _ :: .inr (.inr none) :: _, h => exact h.elim
  case baload =>
    obtain ⟨hd, rfl⟩ := am_dc_ok hv
    match st, h with
    | .inl j :: .inr (.inr (some (c, i))) :: r, h =>
      rcases hck : am_ck c with ⟨a9, N, v, t, y⟩
      dsimp only [am_hop] at h
      rw [hck] at h
      match a9, h, hck with
      | 0, h, _ => exact h.elim
      | 1, h, _ => exact h.elim
      | 2, h, hck =>
        exact ar_zald hck h.1.1 h.1.2 hd (hgo _ _ _ _ _ _ _ _ _ h.2)
      | _ + 3, h, _ => exact h.elim
    | [], h => exact h.elim
    | [.inl _], h => exact h.elim
    | .inr _ :: _, h => exact h.elim
    | .inl _ :: .inl _ :: _, h => exact h.elim
    | .inl _ :: .inr (.inl _) :: _, h => exact h.elim
    | .inl _ :: .inr (.inr none) :: _, h => exact h.elim
  case laload =>
    obtain ⟨hd, rfl⟩ := am_dc_ok hv
    match st, h with
    | .inl j :: .inr (.inr (some (c, i))) :: r, h =>
      rcases hck : am_ck c with ⟨a9, N, v, t, y⟩
      dsimp only [am_hop] at h
      rw [hck] at h
      match a9, h, hck with
      | 0, h, _ => exact h.elim
      | 1, h, _ => exact h.elim
      | 2, h, _ => exact h.elim
      | 3, h, hck =>
        exact ar_lald hck h.1.1 h.1.2 hd (hgo _ _ _ _ _ _ _ _ _ h.2)
      | _ + 4, h, _ => exact h.elim
    | [], h => exact h.elim
    | [.inl _], h => exact h.elim
    | .inr _ :: _, h => exact h.elim
    | .inl _ :: .inl _ :: _, h => exact h.elim
    | .inl _ :: .inr (.inl _) :: _, h => exact h.elim
    | .inl _ :: .inr (.inr none) :: _, h => exact h.elim
  case aaload =>
    obtain ⟨hd, rfl⟩ := am_dc_ok hv
    match st, h with
    | .inl j :: .inr (.inr (some (c, i))) :: r, h =>
      rcases hck : am_ck c with ⟨a9, N, v, t, y⟩
      dsimp only [am_hop] at h
      rw [hck] at h
      match a9, h, hck with
      | 0, h, _ => exact h.elim
      | 1, h, _ => exact h.elim
      | 2, h, _ => exact h.elim
      | 3, h, _ => exact h.elim
      | 4, h, hck =>
        obtain ⟨⟨h0, h1⟩, h⟩ := h
        obtain ⟨hin, h⟩ := am_cond h
        exact ar_aaldS hck h0 h1 hin hd (hgo _ _ _ _ _ _ _ _ _ (am_aidxK_ok h))
      | 5, h, hck =>
        obtain ⟨⟨h0, h1⟩, h2, h3⟩ := h
        cases hR : R v i j.toInt.toNat with
        | none => exact ar_aaldN hck h0 h1 hR hd (hgo _ _ _ _ _ _ _ _ _ (h2 hR))
        | some b => exact ar_aaldD hck h0 h1 hR hd (hgo _ _ _ _ _ _ _ _ _ (h3 b hR))
      | _ + 6, h, _ => exact h.elim
    | [], h => exact h.elim
    | [.inl _], h => exact h.elim
    | .inr _ :: _, h => exact h.elim
    | .inl _ :: .inl _ :: _, h => exact h.elim
    | .inl _ :: .inr (.inl _) :: _, h => exact h.elim
    | .inl _ :: .inr (.inr none) :: _, h => exact h.elim
  case iastore =>
    obtain ⟨hd, rfl⟩ := am_dc_ok hv
    match st, h with
    | .inl x :: .inl j :: .inr (.inr (some (c, i))) :: r, h =>
      rcases hck : am_ck c with ⟨a9, N, v, t, y⟩
      dsimp only [am_hop] at h
      rw [hck] at h
      match a9, h, hck with
      | 0, h, _ => exact h.elim
      | 1, h, hck =>
        exact ar_iast hck h.1.1 h.1.2 hd (hgo _ _ _ _ _ _ _ _ _ (am_nmI_ok (am_nmV_ok h.2)))
      | _ + 2, h, _ => exact h.elim
    | [], h => exact h.elim
    | .inr _ :: _, h => exact h.elim
    | [.inl _], h => exact h.elim
    | .inl _ :: .inr _ :: _, h => exact h.elim
    | [.inl _, .inl _], h => exact h.elim
    | .inl _ :: .inl _ :: .inl _ :: _, h => exact h.elim
    | .inl _ :: .inl _ :: .inr (.inl _) :: _, h => exact h.elim
    | .inl _ :: .inl _ :: .inr (.inr none) :: _, h => exact h.elim
  case bastore =>
    obtain ⟨hd, rfl⟩ := am_dc_ok hv
    match st, h with
    | .inl x :: .inl j :: .inr (.inr (some (c, i))) :: r, h =>
      rcases hck : am_ck c with ⟨a9, N, v, t, y⟩
      dsimp only [am_hop] at h
      rw [hck] at h
      match a9, h, hck with
      | 0, h, _ => exact h.elim
      | 1, h, _ => exact h.elim
      | 2, h, hck =>
        exact ar_zast hck h.1.1 h.1.2 h.2.1 hd (hgo _ _ _ _ _ _ _ _ _ (am_nmI_ok (am_nmV_ok h.2.2)))
      | _ + 3, h, _ => exact h.elim
    | [], h => exact h.elim
    | .inr _ :: _, h => exact h.elim
    | [.inl _], h => exact h.elim
    | .inl _ :: .inr _ :: _, h => exact h.elim
    | [.inl _, .inl _], h => exact h.elim
    | .inl _ :: .inl _ :: .inl _ :: _, h => exact h.elim
    | .inl _ :: .inl _ :: .inr (.inl _) :: _, h => exact h.elim
    | .inl _ :: .inl _ :: .inr (.inr none) :: _, h => exact h.elim
  case lastore =>
    obtain ⟨hd, rfl⟩ := am_dc_ok hv
    match st, h with
    | .inr (.inl x) :: .inl j :: .inr (.inr (some (c, i))) :: r, h =>
      rcases hck : am_ck c with ⟨a9, N, v, t, y⟩
      dsimp only [am_hop] at h
      rw [hck] at h
      match a9, h, hck with
      | 0, h, _ => exact h.elim
      | 1, h, _ => exact h.elim
      | 2, h, _ => exact h.elim
      | 3, h, hck =>
        exact ar_last hck h.1.1 h.1.2 hd (hgo _ _ _ _ _ _ _ _ _ h.2)
      | _ + 4, h, _ => exact h.elim
    | [], h => exact h.elim
    | .inl _ :: _, h => exact h.elim
    | .inr (.inr _) :: _, h => exact h.elim
    | [.inr (.inl _)], h => exact h.elim
    | .inr (.inl _) :: .inr _ :: _, h => exact h.elim
    | [.inr (.inl _), .inl _], h => exact h.elim
    | .inr (.inl _) :: .inl _ :: .inl _ :: _, h => exact h.elim
    | .inr (.inl _) :: .inl _ :: .inr (.inl _) :: _, h => exact h.elim
    | .inr (.inl _) :: .inl _ :: .inr (.inr none) :: _, h => exact h.elim
  case aastore =>
    obtain ⟨hd, rfl⟩ := am_dc_ok hv
    match st, h with
    | .inr (.inr (some (t2, b2))) :: .inl j :: .inr (.inr (some (c, i))) :: r, h =>
      rcases hck : am_ck c with ⟨a9, N, v, t, y⟩
      dsimp only [am_hop] at h
      rw [hck] at h
      match a9, h, hck with
      | 0, h, _ => exact h.elim
      | 1, h, _ => exact h.elim
      | 2, h, _ => exact h.elim
      | 3, h, _ => exact h.elim
      | 4, h, hck =>
        obtain ⟨hy, h⟩ := am_cond h
        obtain ⟨⟨h0, h1⟩, ⟨e1, e2⟩, h2⟩ := h
        subst e1
        exact ar_aastS hck (Nat.blt_eq.mp hy) h0 h1 e2 hd (hgo _ _ _ _ _ _ _ _ _ h2)
      | 5, h, hck =>
        obtain ⟨⟨h0, h1⟩, e1, h2⟩ := h
        subst e1
        exact ar_aastD hck h0 h1 hd (hgo _ _ _ _ _ _ _ _ _ h2)
      | _ + 6, h, _ => exact h.elim
    | [], h => exact h.elim
    | .inl _ :: _, h => exact h.elim
    | .inr (.inl _) :: _, h => exact h.elim
    | .inr (.inr none) :: _, h => exact h.elim
    | [.inr (.inr (some _))], h => exact h.elim
    | .inr (.inr (some _)) :: .inr _ :: _, h => exact h.elim
    | [.inr (.inr (some _)), .inl _], h => exact h.elim
    | .inr (.inr (some _)) :: .inl _ :: .inl _ :: _, h => exact h.elim
    | .inr (.inr (some _)) :: .inl _ :: .inr (.inl _) :: _, h => exact h.elim
    | .inr (.inr (some _)) :: .inl _ :: .inr (.inr none) :: _, h => exact h.elim
  case arraylength =>
    obtain ⟨hd, rfl⟩ := am_dc_ok hv
    match st, h with
    | .inr (.inr (some (c, i))) :: r, h =>
      rcases hck : am_ck c with ⟨a9, N, v, t, y⟩
      dsimp only [am_hop] at h
      rw [hck] at h
      match a9, h, hck with
      | 0, h, _ => exact h.elim
      | a9 + 1, h, hck =>
        have h9 : cond (Nat.blt a9 5) (go k n (pc + 1) L (vI (zI N) :: r) I Lg R G) (am_J Γ M Q d k n pc L (vR c i :: r) I Lg R G) := h
        cases hb : Nat.blt a9 5 with
        | false => rw [hb] at h9; exact h9
        | true => rw [hb] at h9; exact ar_alen hck (Nat.blt_eq.mp hb) hd (hgo _ _ _ _ _ _ _ _ _ h9)
    | [], h => exact h.elim
    | .inl _ :: _, h => exact h.elim
    | .inr (.inl _) :: _, h => exact h.elim
    | .inr (.inr none) :: _, h => exact h.elim
  case tableswitch dflt lo hi offs =>
    match ann, hv, h with
    | [], hv, _ => cases hv
    | dfl :: ks, hv, h =>
      have hv2 := Bool.and_eq_true_iff.mp hv
      have hd := of_decide_eq_true hv2.1
      have hv3 := Bool.and_eq_true_iff.mp hv2.2
      have hdf := of_decide_eq_true hv3.1
      have hv4 := Bool.and_eq_true_iff.mp hv3.2
      have hsz := of_decide_eq_true hv4.1
      match st, h with
      | .inl x :: r, h =>
        by_cases hx : x.toInt < lo ∨ hi < x.toInt
        · exact ar_tsOut hd hx hdf (hgo _ _ _ _ _ _ _ _ _ (h.1 hx))
        · have hx1 : ¬ x.toInt < lo := fun q => hx (Or.inl q)
          have hx2 : ¬ hi < x.toInt := fun q => hx (Or.inr q)
          obtain ⟨off, t, e1, e2, e3⟩ := am_swk_ok hv4.2 h.2 (x.toInt - lo).toNat (by rw [Array.length_toList]; omega) (by omega)
          exact ar_tsIn hd hx1 hx2 (by rw [← Array.getElem?_toList]; exact e1) e2 (hgo _ _ _ _ _ _ _ _ _ e3)
      | [], h => exact h.elim
      | .inr _ :: _, h => exact h.elim
  case invokevirtual idx =>
    match d, ann, hv, h with
    | d9, [], hv, h => cases d9 <;> exact h
    | _, [_], hv, h => cases hv
    | _, [_, _], hv, h => cases hv
    | _, [_, _, _], hv, h => cases hv
    | _, [_, _, _, _], hv, h => cases hv
    | _, [_, _, _, _, _], hv, h => cases hv
    | _, [_, _, _, _, _, _], hv, h => cases hv
    | _, [_, _, _, _, _, _, _], hv, h => cases hv
    | _, [_, _, _, _, _, _, _, _], hv, h => cases hv
    | 0, _ :: _ :: _ :: _ :: _ :: _ :: _ :: _ :: _ :: _, hv, h => exact h
    | d + 1, np :: c' :: k2 :: n2 :: w1 :: w2 :: w3 :: w4 :: w5 :: _, hv, h =>
      have hv2 := Bool.and_eq_true_iff.mp hv
      obtain ⟨hd, rfl⟩ := am_dc_ok hv2.1
      have hv3 := Bool.and_eq_true_iff.mp hv2.2
      have hnp : np = M2.2.2.2.2.2 + 1 := beq_iff_eq.mp hv3.1
      have hv4 := Bool.and_eq_true_iff.mp hv3.2
      have hv5 := Bool.and_eq_true_iff.mp hv4.2
      have hv6 := Bool.and_eq_true_iff.mp hv5.2
      have hv7 := Bool.and_eq_true_iff.mp hv6.2
      have hv8 := Bool.and_eq_true_iff.mp hv7.2
      have hv9 := Bool.and_eq_true_iff.mp hv8.2
      obtain ⟨hkn, h⟩ := am_cond h
      have hkn2 := Bool.and_eq_true_iff.mp hkn
      have hk2 := Nat.le_of_ble_eq_true hkn2.1
      have hn2 := Nat.le_of_ble_eq_true hkn2.2
      obtain ⟨xs, rest, e1, e2, h⟩ := am_pop_ok h
      rw [List.append_nil] at h
      obtain ⟨hct, h⟩ := am_cond h
      generalize hAs : xs.reverse = As at h
      match As, hAs, h with
      | .inr (.inr (some (c, i))) :: As, hAs, h =>
        obtain ⟨hb, h3⟩ := am_cond h
        have hb2 : c = c' := Nat.eq_of_beq_eq_true hb
        subst hb2
        have hvc := hv4.1
        cases hr : vwCl[c]? with
        | none => rw [hr] at hvc; cases hvc
        | some r =>
          rw [hr] at hvc
          have hxs : xs = As.reverse ++ [vR c i] := by rw [← List.reverse_reverse xs, hAs, List.reverse_cons]
          have hln : As.length = M2.2.2.2.2.2 := by have : (xs.reverse).length = np := by rw [List.length_reverse]; exact e2
                                                    rw [hAs, hnp] at this; simpa using this
          have key : am_J Γ M Q (d + 1) (k2 + (k - k2)) (n2 + (n - n2)) pc L st I Lg R G := ar_invV (As := As) (rest := rest) (by rw [e1, hxs]; simp) hr (of_decide_eq_true hvc) (am_mck_ok hv5.1 hv9.2) (am_at_in hv6.1) (am_at_in hv7.1) (am_at_in hv8.1) (am_at_in hv9.1) hln (Nat.le_of_ble_eq_true hct) hd (am_Sp.mono h3 (fun r I' Lg' R' G' hq => by cases r <;> exact hgo _ _ _ _ _ _ _ _ _ hq))
          rw [show k2 + (k - k2) = k by omega, show n2 + (n - n2) = n by omega] at key
          exact key
      | [], _, h => exact h.elim
      | .inl _ :: _, _, h => exact h.elim
      | .inr (.inl _) :: _, _, h => exact h.elim
      | .inr (.inr none) :: _, _, h => exact h.elim
  case invokestatic idx =>
    match d, ann, hv, h with
    | d9, [], hv, h => cases d9 <;> exact h
    | 0, 0 :: _ :: _ :: _ :: _ :: _ :: _ :: _ :: _, hv, h => exact h
    | 0, 1 :: _ :: _ :: _ :: _ :: _, hv, h => exact h
    | 0, 2 :: _ :: _ :: _ :: _ :: _, hv, h => exact h
    | 0, 3 :: _ :: _ :: _ :: _ :: _, hv, h => exact h
    | d9, 9 :: _, hv, h => cases d9 <;> exact h
    | _, [0], hv, h => cases hv
    | _, [0, _], hv, h => cases hv
    | _, [0, _, _], hv, h => cases hv
    | _, [0, _, _, _], hv, h => cases hv
    | _, [0, _, _, _, _], hv, h => cases hv
    | _, [0, _, _, _, _, _], hv, h => cases hv
    | _, [0, _, _, _, _, _, _], hv, h => cases hv
    | _, [1], hv, h => cases hv
    | _, [1, _], hv, h => cases hv
    | _, [1, _, _], hv, h => cases hv
    | _, [1, _, _, _], hv, h => cases hv
    | _, [2], hv, h => cases hv
    | _, [2, _], hv, h => cases hv
    | _, [2, _, _], hv, h => cases hv
    | _, [2, _, _, _], hv, h => cases hv
    | _, [3], hv, h => cases hv
    | _, [3, _], hv, h => cases hv
    | _, [3, _, _], hv, h => cases hv
    | _, [3, _, _, _], hv, h => cases hv
    | _, 4 :: _, hv, h => cases hv
    | _, 5 :: _, hv, h => cases hv
    | _, 6 :: _, hv, h => cases hv
    | _, 7 :: _, hv, h => cases hv
    | _, 8 :: _, hv, h => cases hv
    | _, (_ + 10) :: _, hv, h => cases hv
    | d + 1, 0 :: np :: k2 :: n2 :: w1 :: w2 :: w4 :: w5 :: _, hv, h =>
      have hv2 := Bool.and_eq_true_iff.mp hv
      obtain ⟨hd, rfl⟩ := am_dc_ok hv2.1
      have hv3 := Bool.and_eq_true_iff.mp hv2.2
      have hnp : np = M2.2.2.2.2.2 := beq_iff_eq.mp hv3.1
      have hv5 := Bool.and_eq_true_iff.mp hv3.2
      have hv6 := Bool.and_eq_true_iff.mp hv5.2
      have hv7 := Bool.and_eq_true_iff.mp hv6.2
      have hv9 := Bool.and_eq_true_iff.mp hv7.2
      obtain ⟨hkn, h⟩ := am_cond h
      have hkn2 := Bool.and_eq_true_iff.mp hkn
      have hk2 := Nat.le_of_ble_eq_true hkn2.1
      have hn2 := Nat.le_of_ble_eq_true hkn2.2
      obtain ⟨xs, rest, e1, e2, h⟩ := am_pop_ok h
      rw [List.append_nil] at h
      obtain ⟨hct, h⟩ := am_cond h
      have key : am_J Γ M Q (d + 1) (k2 + (k - k2)) (n2 + (n - n2)) pc L st I Lg R G := ar_invS (As := xs.reverse) (rest := rest) (by rw [e1, List.reverse_reverse]) (am_mck_ok hv5.1 hv9.2) (am_at_in hv6.1) (am_at_in hv7.1) (am_at_in hv9.1) (by rw [List.length_reverse, e2, hnp]) (Nat.le_of_ble_eq_true hct) hd (am_Sp.mono h (fun r I' Lg' R' G' hq => by cases r <;> exact hgo _ _ _ _ _ _ _ _ _ hq))
      rw [show k2 + (k - k2) = k by omega, show n2 + (n - n2) = n by omega] at key
      exact key
    | d + 1, 1 :: w1 :: w2 :: w3 :: w4 :: _, hv, h =>
      have hv2 := Bool.and_eq_true_iff.mp hv
      obtain ⟨hd, rfl⟩ := am_dc_ok hv2.1
      have hv3 := Bool.and_eq_true_iff.mp hv2.2
      have hv4 := Bool.and_eq_true_iff.mp hv3.2
      have hv5 := Bool.and_eq_true_iff.mp hv4.2
      match st, h with
      | .inl y :: .inl x :: r, h =>
        obtain ⟨hct, h⟩ := am_cond h
        exact ar_mmax (am_at_in hv3.1) (am_at_in hv4.1) (am_at_in hv5.1) (am_at_in hv5.2) (Nat.le_of_ble_eq_true hct) hd (hgo _ _ _ _ _ _ _ _ _ h)
      | [], h => exact h.elim
      | [.inl _], h => exact h.elim
      | .inr _ :: _, h => exact h.elim
      | .inl _ :: .inr _ :: _, h => exact h.elim
    | d + 1, 2 :: w1 :: w2 :: w3 :: w4 :: _, hv, h =>
      have hv2 := Bool.and_eq_true_iff.mp hv
      obtain ⟨hd, rfl⟩ := am_dc_ok hv2.1
      have hv3 := Bool.and_eq_true_iff.mp hv2.2
      have hv4 := Bool.and_eq_true_iff.mp hv3.2
      have hv5 := Bool.and_eq_true_iff.mp hv4.2
      match st, h with
      | .inl y :: .inl x :: r, h =>
        obtain ⟨hct, h⟩ := am_cond h
        exact ar_mmin (am_at_in hv3.1) (am_at_in hv4.1) (am_at_in hv5.1) (am_at_in hv5.2) (Nat.le_of_ble_eq_true hct) hd (hgo _ _ _ _ _ _ _ _ _ h)
      | [], h => exact h.elim
      | [.inl _], h => exact h.elim
      | .inr _ :: _, h => exact h.elim
      | .inl _ :: .inr _ :: _, h => exact h.elim
    | d + 1, 3 :: w1 :: w2 :: w3 :: w4 :: _, hv, h =>
      have hv2 := Bool.and_eq_true_iff.mp hv
      obtain ⟨hd, rfl⟩ := am_dc_ok hv2.1
      have hv3 := Bool.and_eq_true_iff.mp hv2.2
      have hv4 := Bool.and_eq_true_iff.mp hv3.2
      have hv5 := Bool.and_eq_true_iff.mp hv4.2
      match st, h with
      | .inl x :: r, h =>
        obtain ⟨hct, h⟩ := am_cond h
        exact ar_mabs (am_at_in hv3.1) (am_at_in hv4.1) (am_at_in hv5.1) (am_at_in hv5.2) (Nat.le_of_ble_eq_true hct) hd (hgo _ _ _ _ _ _ _ _ _ h)
      | [], h => exact h.elim
      | .inr _ :: _, h => exact h.elim
  case invokespecial idx =>
    match d, ann, hv, h with
    | d9, [], hv, h => cases d9 <;> exact h
    | 0, 0 :: _ :: _ :: _ :: _ :: _ :: _ :: _ :: _, hv, h => exact h
    | 0, 1 :: _ :: _ :: _ :: _, hv, h => exact h
    | d9, 2 :: _, hv, h => cases d9 <;> exact h
    | _, [0], hv, h => cases hv
    | _, [0, _], hv, h => cases hv
    | _, [0, _, _], hv, h => cases hv
    | _, [0, _, _, _], hv, h => cases hv
    | _, [0, _, _, _, _], hv, h => cases hv
    | _, [0, _, _, _, _, _], hv, h => cases hv
    | _, [0, _, _, _, _, _, _], hv, h => cases hv
    | _, [1], hv, h => cases hv
    | _, [1, _], hv, h => cases hv
    | _, [1, _, _], hv, h => cases hv
    | _, (_ + 3) :: _, hv, h => cases hv
    | d + 1, 0 :: np :: k2 :: n2 :: w1 :: w2 :: w4 :: w5 :: _, hv, h =>
      have hv2 := Bool.and_eq_true_iff.mp hv
      obtain ⟨hd, rfl⟩ := am_dc_ok hv2.1
      have hv3 := Bool.and_eq_true_iff.mp hv2.2
      have hnp : np = M2.2.2.2.2.2 + 1 := beq_iff_eq.mp hv3.1
      have hv4 := Bool.and_eq_true_iff.mp hv3.2
      have hv5 := Bool.and_eq_true_iff.mp hv4.2
      have hv6 := Bool.and_eq_true_iff.mp hv5.2
      have hv7 := Bool.and_eq_true_iff.mp hv6.2
      have hv8 := Bool.and_eq_true_iff.mp hv7.2
      have hv9 := Bool.and_eq_true_iff.mp hv8.2
      obtain ⟨hkn, h⟩ := am_cond h
      have hkn2 := Bool.and_eq_true_iff.mp hkn
      have hk2 := Nat.le_of_ble_eq_true hkn2.1
      have hn2 := Nat.le_of_ble_eq_true hkn2.2
      obtain ⟨xs, rest, e1, e2, h⟩ := am_pop_ok h
      rw [List.append_nil] at h
      obtain ⟨hct, h⟩ := am_cond h
      generalize hAs : xs.reverse = As at h
      match As, hAs, h with
      | .inr (.inr (some (c, i))) :: As, hAs, h =>
        have hxs : xs = As.reverse ++ [vR c i] := by rw [← List.reverse_reverse xs, hAs, List.reverse_cons]
        have hln : As.length = M2.2.2.2.2.2 := by have : (xs.reverse).length = np := by rw [List.length_reverse]; exact e2
                                                  rw [hAs, hnp] at this; simpa using this
        have key : am_J Γ M Q (d + 1) (k2 + (k - k2)) (n2 + (n - n2)) pc L st I Lg R G := ar_invI (As := As) (rest := rest) (by rw [e1, hxs]; simp) (am_mck_ok hv4.1 hv9.2) (of_decide_eq_true hv5.1) (of_decide_eq_true hv6.1) (am_at_in hv7.1) (am_at_in hv8.1) (am_at_in hv9.1) hln (Nat.le_of_ble_eq_true hct) hd (am_Sp.mono h (fun r I' Lg' R' G' hq => by cases r <;> exact hgo _ _ _ _ _ _ _ _ _ hq))
        rw [show k2 + (k - k2) = k by omega, show n2 + (n - n2) = n by omega] at key
        exact key
      | [], _, h => exact h.elim
      | .inl _ :: _, _, h => exact h.elim
      | .inr (.inl _) :: _, _, h => exact h.elim
      | .inr (.inr none) :: _, _, h => exact h.elim
    | d + 1, 1 :: w1 :: w2 :: w4 :: _, hv, h =>
      have hv2 := Bool.and_eq_true_iff.mp hv
      obtain ⟨hd, rfl⟩ := am_dc_ok hv2.1
      have hv3 := Bool.and_eq_true_iff.mp hv2.2
      have hv4 := Bool.and_eq_true_iff.mp hv3.2
      match st, h with
      | .inr (.inr (some (a, b))) :: r, h =>
        obtain ⟨hct, h⟩ := am_cond h
        exact ar_obj (am_at_in hv3.1) (am_at_in hv4.1) (am_at_in hv4.2) (Nat.le_of_ble_eq_true hct) hd (hgo _ _ _ _ _ _ _ _ _ h)
      | [], h => exact h.elim
      | .inl _ :: _, h => exact h.elim
      | .inr (.inl _) :: _, h => exact h.elim
      | .inr (.inr none) :: _, h => exact h.elim
  case new idx =>
    match k, ann, hv, h with
    | k9, [], _, h => cases k9 <;> exact h
    | _, [_], hv, _ => cases hv
    | _, [_, _], hv, _ => cases hv
    | _, [_, _, _], hv, _ => cases hv
    | _, [_, _, _, _], hv, _ => cases hv
    | 0, _ :: _ :: _ :: _ :: _ :: _, hv, h => exact h
    | k + 1, c :: N :: w1 :: w2 :: w3 :: _, hv, h =>
      have hv2 := Bool.and_eq_true_iff.mp hv
      obtain ⟨hd, rfl⟩ := am_dc_ok hv2.1
      have hvc := hv2.2
      cases hr : vwCl[c]? with
      | none => rw [hr] at hvc; cases hvc
      | some r =>
        rw [hr] at hvc
        have hv3 := Bool.and_eq_true_iff.mp hvc
        have hv4 := Bool.and_eq_true_iff.mp hv3.2
        have hv5 := Bool.and_eq_true_iff.mp hv4.2
        obtain ⟨hN, h⟩ := am_cond h
        have hN1 := Bool.and_eq_true_iff.mp hN
        have hN2 := Nat.le_of_ble_eq_true hN1.1
        have hop : G.1 1000 c 0 = false := by have := hN1.2; simpa using this
        have key : am_J Γ M Q d (k + 1) (n - N + N) pc L st I Lg R G := ar_new hop hr (beq_iff_eq.mp hv3.1) (am_at_in hv4.1) (am_at_in hv5.1) (am_at_in hv5.2) hd (fun z => hgo _ _ _ _ _ _ _ _ _ (h z))
        rw [show n - N + N = n by omega] at key
        exact key
  case newarray ty =>
    match k, st, ann, hv, h with
    | _, _, [], hv, _ => cases hv
    | _, _, [_], hv, _ => cases hv
    | _, _, [_, _], hv, _ => cases hv
    | 0, [], _ :: _ :: _ :: _, hv, h => exact h.elim
    | 0, .inl _ :: _, _ :: _ :: _ :: _, hv, h => exact h.elim
    | 0, .inr _ :: _, _ :: _ :: _ :: _, hv, h => exact h.elim
    | k + 1, [], _ :: _ :: _ :: _, hv, h => exact h.elim
    | k + 1, .inr _ :: _, _ :: _ :: _ :: _, hv, h => exact h.elim
    | k + 1, .inl x :: r, c :: N :: w :: _, hv, h =>
      have hv2 := Bool.and_eq_true_iff.mp hv
      obtain ⟨hd, rfl⟩ := am_dc_ok hv2.1
      have hvc := hv2.2
      obtain ⟨hN, h1⟩ := am_cond h
      have hN1 := Bool.and_eq_true_iff.mp hN
      have hN2 := Nat.le_of_ble_eq_true hN1.1
      have hop : G.1 1000 c 0 = false := by have := hN1.2; simpa using this
      obtain ⟨ex, h2⟩ := h1
      subst ex
      rcases hck : am_ck c with ⟨a9, N9, v, t, y⟩
      rw [hck] at hvc
      match a9, hvc, hck with
      | 0, hvc, _ => cases hvc
      | a9 + 1, hvc, hck =>
        have hv3 := Bool.and_eq_true_iff.mp hvc
        have hv4 := Bool.and_eq_true_iff.mp hv3.2
        have hv5 := Bool.and_eq_true_iff.mp hv4.2
        have hv6 := Bool.and_eq_true_iff.mp hv5.2
        have e1 : N9 = N := beq_iff_eq.mp hv4.1
        subst e1
        have e2 : ty = am_atype a9 := of_decide_eq_true hv6.1
        subst e2
        have key : am_J Γ M Q d (k + 1) (n - N9 + N9) pc L (vI (zI N9) :: r) I Lg R G := ar_newa hop hck (Nat.blt_eq.mp hv3.1) (Nat.le_of_ble_eq_true hv5.1) (am_at_in hv6.2) hd (fun z => hgo _ _ _ _ _ _ _ _ _ (h2 z))
        rw [show n - N9 + N9 = n by omega] at key
        exact key
  case ireturn =>
    match ann, hv, h with
    | [], hv, _ => cases hv
    | (_ + 2) :: _, hv, _ => cases hv
    | 0 :: _, hv, h =>
      have hv2 := Bool.and_eq_true_iff.mp hv
      obtain ⟨hd, -⟩ := am_dc_ok hv2.1
      match st, h with
      | [.inl x], h => exact ar_iret hd (Or.inl (of_decide_eq_true hv2.2)) h
      | [], h => exact h.elim
      | .inr _ :: _, h => exact h.elim
      | .inl _ :: _ :: _, h => exact h.elim
    | 1 :: _, hv, h =>
      have hv2 := Bool.and_eq_true_iff.mp hv
      obtain ⟨hd, -⟩ := am_dc_ok hv2.1
      match st, h with
      | [.inl x], h => exact ar_iret hd (Or.inr ⟨of_decide_eq_true hv2.2, h.1⟩) h.2
      | [], h => exact h.elim
      | .inr _ :: _, h => exact h.elim
      | .inl _ :: _ :: _, h => exact h.elim
  case return_ =>
    have hv2 := Bool.and_eq_true_iff.mp hv
    obtain ⟨hd, -⟩ := am_dc_ok hv2.1
    match st, h with
    | [], h => exact ar_ret hd (of_decide_eq_true hv2.2) h
    | _ :: _, h => exact h.elim
  case lreturn =>
    have hv2 := Bool.and_eq_true_iff.mp hv
    obtain ⟨hd, -⟩ := am_dc_ok hv2.1
    match st, h with
    | [.inr (.inl x)], h => exact ar_lret hd (of_decide_eq_true hv2.2) h
    | [], h => exact h.elim
    | .inl _ :: _, h => exact h.elim
    | .inr (.inr _) :: _, h => exact h.elim
    | .inr (.inl _) :: _ :: _, h => exact h.elim
  case areturn =>
    have hv2 := Bool.and_eq_true_iff.mp hv
    obtain ⟨hd, -⟩ := am_dc_ok hv2.1
    have hv3 := hv2.2
    have hq : ∃ q, M.2.2.2.2.1 = some (.object q) := by
      generalize M.2.2.2.2.1 = rt at hv3
      match rt, hv3 with
      | some (.object q), _ => exact ⟨q, rfl⟩
      | none, hv3 => cases hv3
      | some (.array _), hv3 => cases hv3
      | some .int, hv3 => cases hv3
      | some .long, hv3 => cases hv3
      | some .boolean, hv3 => cases hv3
      | some .byte, hv3 => cases hv3
      | some .short, hv3 => cases hv3
      | some .char, hv3 => cases hv3
      | some .float, hv3 => cases hv3
      | some .double, hv3 => cases hv3
    match st, h with
    | [.inr (.inr x)], h => exact ar_aret hd hq h
    | [], h => exact h.elim
    | .inl _ :: _, h => exact h.elim
    | .inr (.inl _) :: _, h => exact h.elim
    | .inr (.inr _) :: _ :: _, h => exact h.elim
  all_goals exact h
/-- a code table that fits the method's code -/
def am_vld (M : MD) (rows : List (List CE)) (n : Nat) : Bool := am_rowsOk n rows && (List.range n).all (fun pc => am_chk M pc (am_lk am_ce0 rows pc))
theorem am_vld_ok {M : MD} {rows : List (List CE)} {n : Nat} (h : am_vld M rows n = true) (pc : Nat) : am_chk M pc (am_lk am_ce0 rows pc) = true := by
  unfold am_vld at h
  have h2 := Bool.and_eq_true_iff.mp h
  by_cases hp : pc < n
  · exact List.all_eq_true.mp h2.2 pc (List.mem_range.mpr hp)
  · rw [am_lk_out _ _ n pc h2.1 (Nat.not_lt.mp hp)]
    rfl
/-- THE WALK IS SOUND -/
theorem am_goA {Γ : AMG} {M : MD} {Q : QQ} {nm : Bool} {rows : List (List CE)} (hv : ∀ pc, am_chk M pc (am_lk am_ce0 rows pc) = true) : ∀ (f : Nat) {d k n pc : Nat} {L : LL} {st : List AV} {I : II} {Lg : LJ} {R : RR} {G : GG}, am_adv Γ M rows Q nm d f k n pc L st I Lg R G → am_J Γ M Q d k n pc L st I Lg R G
  | 0, _, _, _, _, _, _, _, _, _, _, h => h
  | f + 1, d, k, n, pc, L, st, I, Lg, R, G, h => by
    have h2 : am_hop Γ M Q nm d pc (am_lk am_ce0 rows pc) (fun k2 n2 pc2 L2 st2 I2 Lg2 R2 G2 => cond (am_lk am_ce0 rows pc2).2.2.1 (am_J Γ M Q d k2 n2 pc2 L2 st2 I2 Lg2 R2 G2) (am_adv Γ M rows Q nm d f k2 n2 pc2 L2 st2 I2 Lg2 R2 G2)) k n L st I Lg R G := h
    refine am_hop_ok (hv pc) (fun k2 n2 pc2 L2 st2 I2 Lg2 R2 G2 h3 => ?_) h2
    cases hb : (am_lk am_ce0 rows pc2).2.2.1 with
    | false => rw [hb] at h3; exact am_goA hv f h3
    | true => rw [hb] at h3; exact h3
theorem am_go {Γ : AMG} {M : MD} {Q : QQ} {rows : List (List CE)} (hv : ∀ pc, am_chk M pc (am_lk am_ce0 rows pc) = true) (f : Nat) {d k n pc : Nat} {L : LL} {st : List AV} {I : II} {Lg : LJ} {R : RR} {G : GG} (h : am_adv Γ M rows Q false d f k n pc L st I Lg R G) : am_J Γ M Q d k n pc L st I Lg R G := am_goA hv f h
/-- the walk that names what it stores -/
theorem am_goN {Γ : AMG} {M : MD} {Q : QQ} {rows : List (List CE)} (hv : ∀ pc, am_chk M pc (am_lk am_ce0 rows pc) = true) (f : Nat) {d k n pc : Nat} {L : LL} {st : List AV} {I : II} {Lg : LJ} {R : RR} {G : GG} (h : am_adv Γ M rows Q true d f k n pc L st I Lg R G) : am_J Γ M Q d k n pc L st I Lg R G := am_goA hv f h
/-- a contract, by the walk from the entry -/
theorem am_run {Γ : AMG} {M : MD} {Q : QQ} {rows : List (List CE)} {d k n : Nat} {args : List AV} {I : II} {Lg : LJ} {R : RR} {G : GG} (hv : ∀ pc, am_chk M pc (am_lk am_ce0 rows pc) = true) (f : Nat) (L : LL) (hL : am_pad M.2.2.2.1 (am_slots args) = L) (hpl : (plainName M.2.1.cls && Nat.blt M.2.2.2.2.2 100) = true) (hown : M.2.1.cls = M.1) (hlen : Nat.ble (am_slots args).length M.2.2.2.1 = true) (h : am_adv Γ M rows Q false d f k n 0 L [] I Lg R G) : am_Sp Γ d k n M args I Lg R G Q :=
  am_Sp.of hpl hown (Nat.le_of_ble_eq_true hlen) (by rw [hL]; exact am_goA hv f h)
theorem am_runN {Γ : AMG} {M : MD} {Q : QQ} {rows : List (List CE)} {d k n : Nat} {args : List AV} {I : II} {Lg : LJ} {R : RR} {G : GG} (hv : ∀ pc, am_chk M pc (am_lk am_ce0 rows pc) = true) (f : Nat) (L : LL) (hL : am_pad M.2.2.2.1 (am_slots args) = L) (hpl : (plainName M.2.1.cls && Nat.blt M.2.2.2.2.2 100) = true) (hown : M.2.1.cls = M.1) (hlen : Nat.ble (am_slots args).length M.2.2.2.1 = true) (h : am_adv Γ M rows Q true d f k n 0 L [] I Lg R G) : am_Sp Γ d k n M args I Lg R G Q :=
  am_Sp.of hpl hown (Nat.le_of_ble_eq_true hlen) (by rw [hL]; exact am_goA hv f h)
