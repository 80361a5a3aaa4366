/-! rules: stores, arithmetic, branches -/
section AMR
variable {Γ : AMG} {M : MD} {Q : QQ} {d k n pc pc' pc2 : Nat} {L L' : LL} {st st' : List AV} {I : II} {Lg : LJ} {R : RR} {G : GG}
/-- a step with two ends -/
theorem am_J.br {A B : Prop} (hs : ∀ (ρ : Nat → Nat → Nat) (p : Program) (e : Env) (Rm : Room) (s : State) (m : MethodId) (args : Array Value) (below : List Frame) (meth : Method) (c : Code) (H : Heap) (locs : List Loc) (cells slots : Nat) (Z : State → Prop) (ls : Array Slot), am_Cx Γ M p s m args meth c →
      (A → W p Γ.l e Rm s m args below meth c H locs cells slots Z (F0 m pc' ls (st'.map (am_con ρ)))) → (B → W p Γ.l e Rm s m args below meth c H locs cells slots Z (F0 m pc2 ls (st'.map (am_con ρ)))) → W p Γ.l e Rm s m args below meth c H locs cells slots Z (F0 m pc ls (st.map (am_con ρ))))
    (ho : am_okS G st → am_okS G st') (h1 : A → am_J Γ M Q d k n pc' L st' I Lg R G) (h2 : B → am_J Γ M Q d k n pc2 L st' I Lg R G) : am_J Γ M Q d k n pc L st I Lg R G := by
  intro ρ p e Rm s m args below meth c H locs cells slots Z C g1 g2 g3 g4 hW hl hoL hoS ret ls hL
  exact hs ρ p e Rm s m args below meth c H locs cells slots Z ls C (fun q => h1 q ρ p e Rm s m args below meth c H locs cells slots Z C g1 g2 g3 g4 hW hl hoL (ho hoS) ret ls hL) (fun q => h2 q ρ p e Rm s m args below meth c H locs cells slots Z C g1 g2 g3 g4 hW hl hoL (ho hoS) ret ls hL)
theorem ar_istore_n {j : Fin 4} {x : Int32} (hi : (j : Nat) < L.length) (hd : decode M.2.2.1 pc = .ok (.istore_n j, 1)) (h : am_J Γ M Q d k n (pc + 1) (am_st L (j : Nat) (some (vI x))) st I Lg R G) : am_J Γ M Q d k n pc L (vI x :: st) I Lg R G :=
  am_J.step (fun ρ p e Rm s m args below meth c H locs cells slots Z ls C hl kk => by
    obtain ⟨ls', e', h'⟩ := hl.st1 (v := vI x) hi (by rfl)
    have e2 : storeLocals ls (j : Nat) (.int x) = some ls' := e'
    refine W.go (g2 := F0 m (pc + 1) ls' (st.map (am_con ρ))) (fun T hT tg ht => ?_) (kk ls' h')
    show Steps p.tables e below (T.setTop (F0 m pc ls (.int x :: st.map (am_con ρ)))) tg
    jvm_step hT [hT.top, ↓top_set hT.top, C.1, C.2.1, hd, e2]
    exact ht) (fun a b => ⟨a.sto (v := vI x) trivial, b.tl⟩) h
theorem ar_istore {j : Nat} {x : Int32} (hi : j < L.length) (hd : decode M.2.2.1 pc = .ok (.istore j, 2)) (h : am_J Γ M Q d k n (pc + 2) (am_st L j (some (vI x))) st I Lg R G) : am_J Γ M Q d k n pc L (vI x :: st) I Lg R G :=
  am_J.step (fun ρ p e Rm s m args below meth c H locs cells slots Z ls C hl kk => by
    obtain ⟨ls', e', h'⟩ := hl.st1 (v := vI x) hi (by rfl)
    have e2 : storeLocals ls j (.int x) = some ls' := e'
    refine W.go (g2 := F0 m (pc + 2) ls' (st.map (am_con ρ))) (fun T hT tg ht => ?_) (kk ls' h')
    show Steps p.tables e below (T.setTop (F0 m pc ls (.int x :: st.map (am_con ρ)))) tg
    jvm_step hT [hT.top, ↓top_set hT.top, C.1, C.2.1, hd, e2]
    exact ht) (fun a b => ⟨a.sto (v := vI x) trivial, b.tl⟩) h
theorem ar_astore_n {j : Fin 4} {o : Option (Nat × Nat)} (hi : (j : Nat) < L.length) (hd : decode M.2.2.1 pc = .ok (.astore_n j, 1)) (h : am_J Γ M Q d k n (pc + 1) (am_st L (j : Nat) (some (.inr (.inr o)))) st I Lg R G) : am_J Γ M Q d k n pc L (.inr (.inr o) :: st) I Lg R G :=
  am_J.step (fun ρ p e Rm s m args below meth c H locs cells slots Z ls C hl kk => by
    obtain ⟨ls', e', h'⟩ := hl.st1 (v := .inr (.inr o)) hi (by obtain _ | ⟨a, b⟩ := o <;> rfl)
    refine W.go (g2 := F0 m (pc + 1) ls' (st.map (am_con ρ))) (fun T hT tg ht => ?_) (kk ls' h')
    obtain _ | ⟨a, b⟩ := o
    · have e2 : storeLocals ls (j : Nat) .null = some ls' := e'
      show Steps p.tables e below (T.setTop (F0 m pc ls (.null :: st.map (am_con ρ)))) tg
      jvm_step hT [hT.top, ↓top_set hT.top, C.1, C.2.1, hd, e2, Value.isRef]
      exact ht
    · have e2 : storeLocals ls (j : Nat) (.ref (ρ a b)) = some ls' := e'
      show Steps p.tables e below (T.setTop (F0 m pc ls (.ref (ρ a b) :: st.map (am_con ρ)))) tg
      jvm_step hT [hT.top, ↓top_set hT.top, C.1, C.2.1, hd, e2, Value.isRef]
      exact ht) (fun a b => ⟨a.sto b.hd, b.tl⟩) h
theorem ar_astore {j : Nat} {o : Option (Nat × Nat)} (hi : j < L.length) (hd : decode M.2.2.1 pc = .ok (.astore j, 2)) (h : am_J Γ M Q d k n (pc + 2) (am_st L j (some (.inr (.inr o)))) st I Lg R G) : am_J Γ M Q d k n pc L (.inr (.inr o) :: st) I Lg R G :=
  am_J.step (fun ρ p e Rm s m args below meth c H locs cells slots Z ls C hl kk => by
    obtain ⟨ls', e', h'⟩ := hl.st1 (v := .inr (.inr o)) hi (by obtain _ | ⟨a, b⟩ := o <;> rfl)
    refine W.go (g2 := F0 m (pc + 2) ls' (st.map (am_con ρ))) (fun T hT tg ht => ?_) (kk ls' h')
    obtain _ | ⟨a, b⟩ := o
    · have e2 : storeLocals ls j .null = some ls' := e'
      show Steps p.tables e below (T.setTop (F0 m pc ls (.null :: st.map (am_con ρ)))) tg
      jvm_step hT [hT.top, ↓top_set hT.top, C.1, C.2.1, hd, e2, Value.isRef]
      exact ht
    · have e2 : storeLocals ls j (.ref (ρ a b)) = some ls' := e'
      show Steps p.tables e below (T.setTop (F0 m pc ls (.ref (ρ a b) :: st.map (am_con ρ)))) tg
      jvm_step hT [hT.top, ↓top_set hT.top, C.1, C.2.1, hd, e2, Value.isRef]
      exact ht) (fun a b => ⟨a.sto b.hd, b.tl⟩) h
theorem ar_lstore_n {j : Fin 4} {x : Int64} (hi : (j : Nat) + 1 < L.length) (hd : decode M.2.2.1 pc = .ok (.lstore_n j, 1)) (h : am_J Γ M Q d k n (pc + 1) ((am_st L (j : Nat) (some (vL x))).set ((j : Nat) + 1) none) st I Lg R G) : am_J Γ M Q d k n pc L (vL x :: st) I Lg R G :=
  am_J.step (fun ρ p e Rm s m args below meth c H locs cells slots Z ls C hl kk => by
    obtain ⟨ls', e', h'⟩ := hl.st2 (v := vL x) hi rfl
    have e2 : storeLocals ls (j : Nat) (.long x) = some ls' := e'
    refine W.go (g2 := F0 m (pc + 1) ls' (st.map (am_con ρ))) (fun T hT tg ht => ?_) (kk ls' h')
    show Steps p.tables e below (T.setTop (F0 m pc ls (.long x :: st.map (am_con ρ)))) tg
    jvm_step hT [hT.top, ↓top_set hT.top, C.1, C.2.1, hd, e2]
    exact ht) (fun a b => ⟨(a.sto (v := vL x) trivial).set, b.tl⟩) h
theorem ar_lstore {j : Nat} {x : Int64} (hi : j + 1 < L.length) (hd : decode M.2.2.1 pc = .ok (.lstore j, 2)) (h : am_J Γ M Q d k n (pc + 2) ((am_st L j (some (vL x))).set (j + 1) none) st I Lg R G) : am_J Γ M Q d k n pc L (vL x :: st) I Lg R G :=
  am_J.step (fun ρ p e Rm s m args below meth c H locs cells slots Z ls C hl kk => by
    obtain ⟨ls', e', h'⟩ := hl.st2 (v := vL x) hi rfl
    have e2 : storeLocals ls j (.long x) = some ls' := e'
    refine W.go (g2 := F0 m (pc + 2) ls' (st.map (am_con ρ))) (fun T hT tg ht => ?_) (kk ls' h')
    show Steps p.tables e below (T.setTop (F0 m pc ls (.long x :: st.map (am_con ρ)))) tg
    jvm_step hT [hT.top, ↓top_set hT.top, C.1, C.2.1, hd, e2]
    exact ht) (fun a b => ⟨(a.sto (v := vL x) trivial).set, b.tl⟩) h
theorem ar_iinc {j : Nat} {z : Int} {x : Int32} (hv : L[j]? = some (some (vI x))) (hd : decode M.2.2.1 pc = .ok (.iinc j z, 3)) (h : am_J Γ M Q d k n (pc + 3) (am_st L j (some (vI (x + zI z)))) st I Lg R G) : am_J Γ M Q d k n pc L st I Lg R G :=
  am_J.step (fun ρ p e Rm s m args below meth c H locs cells slots Z ls C hl kk => by
    obtain ⟨ls', e', h'⟩ := hl.st1 (v := vI (x + zI z)) (List.getElem?_eq_some_iff.mp hv).1 rfl
    have e2 : storeLocals ls j (.int (x + Int32.ofInt z)) = some ls' := e'
    have hg : ls[j]? = some (.val (.int x)) := hl.at hv
    refine W.go (g2 := F0 m (pc + 3) ls' (st.map (am_con ρ))) (fun T hT tg ht => ?_) (kk ls' h')
    jvm_step hT [hT.top, ↓top_set hT.top, C.1, C.2.1, hd, hg, e2]
    exact ht) (fun a b => ⟨a.sto (v := vI (x + zI z)) trivial, b⟩) h
theorem ar_iadd {x y : Int32} (hd : decode M.2.2.1 pc = .ok (.iadd, 1)) (h : am_J Γ M Q d k n (pc + 1) L (vI (x + y) :: st) I Lg R G) : am_J Γ M Q d k n pc L (vI y :: vI x :: st) I Lg R G :=
  am_J.step (fun ρ p e Rm s m args below meth c H locs cells slots Z ls C hl kk => lv_iadd C.1 C.2.1 hd (kk ls hl)) (fun a b => ⟨a, b.tl.tl.i⟩) h
theorem ar_isub {x y : Int32} (hd : decode M.2.2.1 pc = .ok (.isub, 1)) (h : am_J Γ M Q d k n (pc + 1) L (vI (x - y) :: st) I Lg R G) : am_J Γ M Q d k n pc L (vI y :: vI x :: st) I Lg R G :=
  am_J.step (fun ρ p e Rm s m args below meth c H locs cells slots Z ls C hl kk => lv_isub C.1 C.2.1 hd (kk ls hl)) (fun a b => ⟨a, b.tl.tl.i⟩) h
theorem ar_imul {x y : Int32} (hd : decode M.2.2.1 pc = .ok (.imul, 1)) (h : am_J Γ M Q d k n (pc + 1) L (vI (x * y) :: st) I Lg R G) : am_J Γ M Q d k n pc L (vI y :: vI x :: st) I Lg R G :=
  am_J.step (fun ρ p e Rm s m args below meth c H locs cells slots Z ls C hl kk => lv_imul C.1 C.2.1 hd (kk ls hl)) (fun a b => ⟨a, b.tl.tl.i⟩) h
theorem ar_iand {x y : Int32} (hd : decode M.2.2.1 pc = .ok (.iand, 1)) (h : am_J Γ M Q d k n (pc + 1) L (vI (x &&& y) :: st) I Lg R G) : am_J Γ M Q d k n pc L (vI y :: vI x :: st) I Lg R G :=
  am_J.step (fun ρ p e Rm s m args below meth c H locs cells slots Z ls C hl kk => lv_iand C.1 C.2.1 hd (kk ls hl)) (fun a b => ⟨a, b.tl.tl.i⟩) h
theorem ar_ior {x y : Int32} (hd : decode M.2.2.1 pc = .ok (.ior, 1)) (h : am_J Γ M Q d k n (pc + 1) L (vI (x ||| y) :: st) I Lg R G) : am_J Γ M Q d k n pc L (vI y :: vI x :: st) I Lg R G :=
  am_J.step (fun ρ p e Rm s m args below meth c H locs cells slots Z ls C hl kk => lv_ior C.1 C.2.1 hd (kk ls hl)) (fun a b => ⟨a, b.tl.tl.i⟩) h
theorem ar_ixor {x y : Int32} (hd : decode M.2.2.1 pc = .ok (.ixor, 1)) (h : am_J Γ M Q d k n (pc + 1) L (vI (x ^^^ y) :: st) I Lg R G) : am_J Γ M Q d k n pc L (vI y :: vI x :: st) I Lg R G :=
  am_J.step (fun ρ p e Rm s m args below meth c H locs cells slots Z ls C hl kk => lv_ixor C.1 C.2.1 hd (kk ls hl)) (fun a b => ⟨a, b.tl.tl.i⟩) h
theorem ar_ishl {x y : Int32} (hd : decode M.2.2.1 pc = .ok (.ishl, 1)) (h : am_J Γ M Q d k n (pc + 1) L (vI (x <<< (y &&& 31)) :: st) I Lg R G) : am_J Γ M Q d k n pc L (vI y :: vI x :: st) I Lg R G :=
  am_J.step (fun ρ p e Rm s m args below meth c H locs cells slots Z ls C hl kk => lv_ishl C.1 C.2.1 hd (kk ls hl)) (fun a b => ⟨a, b.tl.tl.i⟩) h
theorem ar_ishr {x y : Int32} (hd : decode M.2.2.1 pc = .ok (.ishr, 1)) (h : am_J Γ M Q d k n (pc + 1) L (vI (x >>> (y &&& 31)) :: st) I Lg R G) : am_J Γ M Q d k n pc L (vI y :: vI x :: st) I Lg R G :=
  am_J.step (fun ρ p e Rm s m args below meth c H locs cells slots Z ls C hl kk => lv_ishr C.1 C.2.1 hd (kk ls hl)) (fun a b => ⟨a, b.tl.tl.i⟩) h
theorem ar_idiv {x y : Int32} (hy : y.toInt ≠ 0) (hd : decode M.2.2.1 pc = .ok (.idiv, 1)) (h : am_J Γ M Q d k n (pc + 1) L (vI (x / y) :: st) I Lg R G) : am_J Γ M Q d k n pc L (vI y :: vI x :: st) I Lg R G :=
  am_J.step (fun ρ p e Rm s m args below meth c H locs cells slots Z ls C hl kk => lv_idiv C.1 C.2.1 hd (fun z => hy (by rw [z]; rfl)) (kk ls hl)) (fun a b => ⟨a, b.tl.tl.i⟩) h
theorem ar_irem {x y : Int32} (hy : y.toInt ≠ 0) (hd : decode M.2.2.1 pc = .ok (.irem, 1)) (h : am_J Γ M Q d k n (pc + 1) L (vI (x - x / y * y) :: st) I Lg R G) : am_J Γ M Q d k n pc L (vI y :: vI x :: st) I Lg R G :=
  am_J.step (fun ρ p e Rm s m args below meth c H locs cells slots Z ls C hl kk => lv_irem C.1 C.2.1 hd (fun z => hy (by rw [z]; rfl)) (kk ls hl)) (fun a b => ⟨a, b.tl.tl.i⟩) h
theorem ar_iushr {x y : Int32} (hd : decode M.2.2.1 pc = .ok (.iushr, 1)) (h : am_J Γ M Q d k n (pc + 1) L (vI (x.toUInt32 >>> (y.toUInt32 &&& Int32.toUInt32 31)).toInt32 :: st) I Lg R G) : am_J Γ M Q d k n pc L (vI y :: vI x :: st) I Lg R G :=
  am_J.step (fun ρ p e Rm s m args below meth c H locs cells slots Z ls C hl kk => lv_iushr C.1 C.2.1 hd rfl (kk ls hl)) (fun a b => ⟨a, b.tl.tl.i⟩) h
theorem ar_ineg {x : Int32} (hd : decode M.2.2.1 pc = .ok (.ineg, 1)) (h : am_J Γ M Q d k n (pc + 1) L (vI (-x) :: st) I Lg R G) : am_J Γ M Q d k n pc L (vI x :: st) I Lg R G :=
  am_J.step (fun ρ p e Rm s m args below meth c H locs cells slots Z ls C hl kk => lv_ineg C.1 C.2.1 hd (kk ls hl)) (fun a b => ⟨a, b.tl.i⟩) h
theorem ar_i2l {x : Int32} (hd : decode M.2.2.1 pc = .ok (.i2l, 1)) (h : am_J Γ M Q d k n (pc + 1) L (vL x.toInt64 :: st) I Lg R G) : am_J Γ M Q d k n pc L (vI x :: st) I Lg R G :=
  am_J.step (fun ρ p e Rm s m args below meth c H locs cells slots Z ls C hl kk => lv_i2l C.1 C.2.1 hd rfl (kk ls hl)) (fun a b => ⟨a, b.tl.l⟩) h
theorem ar_ladd {x y : Int64} (hd : decode M.2.2.1 pc = .ok (.ladd, 1)) (h : am_J Γ M Q d k n (pc + 1) L (vL (x + y) :: st) I Lg R G) : am_J Γ M Q d k n pc L (vL y :: vL x :: st) I Lg R G :=
  am_J.step (fun ρ p e Rm s m args below meth c H locs cells slots Z ls C hl kk => lv_ladd C.1 C.2.1 hd (kk ls hl)) (fun a b => ⟨a, b.tl.tl.l⟩) h
theorem ar_lsub {x y : Int64} (hd : decode M.2.2.1 pc = .ok (.lsub, 1)) (h : am_J Γ M Q d k n (pc + 1) L (vL (x - y) :: st) I Lg R G) : am_J Γ M Q d k n pc L (vL y :: vL x :: st) I Lg R G :=
  am_J.step (fun ρ p e Rm s m args below meth c H locs cells slots Z ls C hl kk => lv_lsub C.1 C.2.1 hd (kk ls hl)) (fun a b => ⟨a, b.tl.tl.l⟩) h
theorem ar_lmul {x y : Int64} (hd : decode M.2.2.1 pc = .ok (.lmul, 1)) (h : am_J Γ M Q d k n (pc + 1) L (vL (x * y) :: st) I Lg R G) : am_J Γ M Q d k n pc L (vL y :: vL x :: st) I Lg R G :=
  am_J.step (fun ρ p e Rm s m args below meth c H locs cells slots Z ls C hl kk => lv_lmul C.1 C.2.1 hd (kk ls hl)) (fun a b => ⟨a, b.tl.tl.l⟩) h
theorem ar_lcmp {x y : Int64} (hd : decode M.2.2.1 pc = .ok (.lcmp, 1)) (h : am_J Γ M Q d k n (pc + 1) L (vI (lg_cmp x y) :: st) I Lg R G) : am_J Γ M Q d k n pc L (vL y :: vL x :: st) I Lg R G :=
  am_J.step (fun ρ p e Rm s m args below meth c H locs cells slots Z ls C hl kk => W.lcmp C.1 C.2.1 hd (kk ls hl)) (fun a b => ⟨a, b.tl.tl.i⟩) h
theorem ar_if_eq {x : Int32} {off : Int} {tgt : Nat} (hd : decode M.2.2.1 pc = .ok (.ifCond .eq off, 3)) (ht : (pc : Int) + off = (tgt : Int)) (h1 : x.toInt = 0 → am_J Γ M Q d k n tgt L st I Lg R G) (h2 : x.toInt ≠ 0 → am_J Γ M Q d k n (pc + 3) L st I Lg R G) : am_J Γ M Q d k n pc L (vI x :: st) I Lg R G :=
  am_J.br (fun ρ p e Rm s m args below meth c H locs cells slots Z ls C k1 k2 => lv_if_eq C.1 C.2.1 hd ht (fun q => k1 (by have := q; simp only [Int32.lt_iff_toInt_lt, Int32.le_iff_toInt_le, ← Int32.toInt_inj, Int32.toInt_zero] at this; omega)) (fun q => k2 (by have := q; simp only [Int32.lt_iff_toInt_lt, Int32.le_iff_toInt_le, ← Int32.toInt_inj, Int32.toInt_zero] at this; omega))) (fun b => b.tl) h1 h2
theorem ar_ic_eq {x y : Int32} {off : Int} {tgt : Nat} (hd : decode M.2.2.1 pc = .ok (.if_icmp .eq off, 3)) (ht : (pc : Int) + off = (tgt : Int)) (h1 : x.toInt = y.toInt → am_J Γ M Q d k n tgt L st I Lg R G) (h2 : x.toInt ≠ y.toInt → am_J Γ M Q d k n (pc + 3) L st I Lg R G) : am_J Γ M Q d k n pc L (vI y :: vI x :: st) I Lg R G :=
  am_J.br (fun ρ p e Rm s m args below meth c H locs cells slots Z ls C k1 k2 => lv_icmp_eq C.1 C.2.1 hd ht (fun q => k1 (by have := q; simp only [Int32.lt_iff_toInt_lt, Int32.le_iff_toInt_le, ← Int32.toInt_inj] at this; omega)) (fun q => k2 (by have := q; simp only [Int32.lt_iff_toInt_lt, Int32.le_iff_toInt_le, ← Int32.toInt_inj] at this; omega))) (fun b => b.tl.tl) h1 h2
theorem ar_if_ne {x : Int32} {off : Int} {tgt : Nat} (hd : decode M.2.2.1 pc = .ok (.ifCond .ne off, 3)) (ht : (pc : Int) + off = (tgt : Int)) (h1 : x.toInt ≠ 0 → am_J Γ M Q d k n tgt L st I Lg R G) (h2 : x.toInt = 0 → am_J Γ M Q d k n (pc + 3) L st I Lg R G) : am_J Γ M Q d k n pc L (vI x :: st) I Lg R G :=
  am_J.br (fun ρ p e Rm s m args below meth c H locs cells slots Z ls C k1 k2 => lv_if_ne C.1 C.2.1 hd ht (fun q => k1 (by have := q; simp only [Int32.lt_iff_toInt_lt, Int32.le_iff_toInt_le, ← Int32.toInt_inj, Int32.toInt_zero] at this; omega)) (fun q => k2 (by have := q; simp only [Int32.lt_iff_toInt_lt, Int32.le_iff_toInt_le, ← Int32.toInt_inj, Int32.toInt_zero] at this; omega))) (fun b => b.tl) h1 h2
theorem ar_ic_ne {x y : Int32} {off : Int} {tgt : Nat} (hd : decode M.2.2.1 pc = .ok (.if_icmp .ne off, 3)) (ht : (pc : Int) + off = (tgt : Int)) (h1 : x.toInt ≠ y.toInt → am_J Γ M Q d k n tgt L st I Lg R G) (h2 : x.toInt = y.toInt → am_J Γ M Q d k n (pc + 3) L st I Lg R G) : am_J Γ M Q d k n pc L (vI y :: vI x :: st) I Lg R G :=
  am_J.br (fun ρ p e Rm s m args below meth c H locs cells slots Z ls C k1 k2 => lv_icmp_ne C.1 C.2.1 hd ht (fun q => k1 (by have := q; simp only [Int32.lt_iff_toInt_lt, Int32.le_iff_toInt_le, ← Int32.toInt_inj] at this; omega)) (fun q => k2 (by have := q; simp only [Int32.lt_iff_toInt_lt, Int32.le_iff_toInt_le, ← Int32.toInt_inj] at this; omega))) (fun b => b.tl.tl) h1 h2
theorem ar_if_lt {x : Int32} {off : Int} {tgt : Nat} (hd : decode M.2.2.1 pc = .ok (.ifCond .lt off, 3)) (ht : (pc : Int) + off = (tgt : Int)) (h1 : x.toInt < 0 → am_J Γ M Q d k n tgt L st I Lg R G) (h2 : 0 ≤ x.toInt → am_J Γ M Q d k n (pc + 3) L st I Lg R G) : am_J Γ M Q d k n pc L (vI x :: st) I Lg R G :=
  am_J.br (fun ρ p e Rm s m args below meth c H locs cells slots Z ls C k1 k2 => lv_if_lt C.1 C.2.1 hd ht (fun q => k1 (by have := q; simp only [Int32.lt_iff_toInt_lt, Int32.le_iff_toInt_le, ← Int32.toInt_inj, Int32.toInt_zero] at this; omega)) (fun q => k2 (by have := q; simp only [Int32.lt_iff_toInt_lt, Int32.le_iff_toInt_le, ← Int32.toInt_inj, Int32.toInt_zero] at this; omega))) (fun b => b.tl) h1 h2
theorem ar_ic_lt {x y : Int32} {off : Int} {tgt : Nat} (hd : decode M.2.2.1 pc = .ok (.if_icmp .lt off, 3)) (ht : (pc : Int) + off = (tgt : Int)) (h1 : x.toInt < y.toInt → am_J Γ M Q d k n tgt L st I Lg R G) (h2 : y.toInt ≤ x.toInt → am_J Γ M Q d k n (pc + 3) L st I Lg R G) : am_J Γ M Q d k n pc L (vI y :: vI x :: st) I Lg R G :=
  am_J.br (fun ρ p e Rm s m args below meth c H locs cells slots Z ls C k1 k2 => lv_icmp_lt C.1 C.2.1 hd ht (fun q => k1 (by have := q; simp only [Int32.lt_iff_toInt_lt, Int32.le_iff_toInt_le, ← Int32.toInt_inj] at this; omega)) (fun q => k2 (by have := q; simp only [Int32.lt_iff_toInt_lt, Int32.le_iff_toInt_le, ← Int32.toInt_inj] at this; omega))) (fun b => b.tl.tl) h1 h2
theorem ar_if_ge {x : Int32} {off : Int} {tgt : Nat} (hd : decode M.2.2.1 pc = .ok (.ifCond .ge off, 3)) (ht : (pc : Int) + off = (tgt : Int)) (h1 : 0 ≤ x.toInt → am_J Γ M Q d k n tgt L st I Lg R G) (h2 : x.toInt < 0 → am_J Γ M Q d k n (pc + 3) L st I Lg R G) : am_J Γ M Q d k n pc L (vI x :: st) I Lg R G :=
  am_J.br (fun ρ p e Rm s m args below meth c H locs cells slots Z ls C k1 k2 => lv_if_ge C.1 C.2.1 hd ht (fun q => k1 (by have := q; simp only [Int32.lt_iff_toInt_lt, Int32.le_iff_toInt_le, ← Int32.toInt_inj, Int32.toInt_zero] at this; omega)) (fun q => k2 (by have := q; simp only [Int32.lt_iff_toInt_lt, Int32.le_iff_toInt_le, ← Int32.toInt_inj, Int32.toInt_zero] at this; omega))) (fun b => b.tl) h1 h2
theorem ar_ic_ge {x y : Int32} {off : Int} {tgt : Nat} (hd : decode M.2.2.1 pc = .ok (.if_icmp .ge off, 3)) (ht : (pc : Int) + off = (tgt : Int)) (h1 : y.toInt ≤ x.toInt → am_J Γ M Q d k n tgt L st I Lg R G) (h2 : x.toInt < y.toInt → am_J Γ M Q d k n (pc + 3) L st I Lg R G) : am_J Γ M Q d k n pc L (vI y :: vI x :: st) I Lg R G :=
  am_J.br (fun ρ p e Rm s m args below meth c H locs cells slots Z ls C k1 k2 => lv_icmp_ge C.1 C.2.1 hd ht (fun q => k1 (by have := q; simp only [Int32.lt_iff_toInt_lt, Int32.le_iff_toInt_le, ← Int32.toInt_inj] at this; omega)) (fun q => k2 (by have := q; simp only [Int32.lt_iff_toInt_lt, Int32.le_iff_toInt_le, ← Int32.toInt_inj] at this; omega))) (fun b => b.tl.tl) h1 h2
theorem ar_if_gt {x : Int32} {off : Int} {tgt : Nat} (hd : decode M.2.2.1 pc = .ok (.ifCond .gt off, 3)) (ht : (pc : Int) + off = (tgt : Int)) (h1 : 0 < x.toInt → am_J Γ M Q d k n tgt L st I Lg R G) (h2 : x.toInt ≤ 0 → am_J Γ M Q d k n (pc + 3) L st I Lg R G) : am_J Γ M Q d k n pc L (vI x :: st) I Lg R G :=
  am_J.br (fun ρ p e Rm s m args below meth c H locs cells slots Z ls C k1 k2 => lv_if_gt C.1 C.2.1 hd ht (fun q => k1 (by have := q; simp only [Int32.lt_iff_toInt_lt, Int32.le_iff_toInt_le, ← Int32.toInt_inj, Int32.toInt_zero] at this; omega)) (fun q => k2 (by have := q; simp only [Int32.lt_iff_toInt_lt, Int32.le_iff_toInt_le, ← Int32.toInt_inj, Int32.toInt_zero] at this; omega))) (fun b => b.tl) h1 h2
theorem ar_ic_gt {x y : Int32} {off : Int} {tgt : Nat} (hd : decode M.2.2.1 pc = .ok (.if_icmp .gt off, 3)) (ht : (pc : Int) + off = (tgt : Int)) (h1 : y.toInt < x.toInt → am_J Γ M Q d k n tgt L st I Lg R G) (h2 : x.toInt ≤ y.toInt → am_J Γ M Q d k n (pc + 3) L st I Lg R G) : am_J Γ M Q d k n pc L (vI y :: vI x :: st) I Lg R G :=
  am_J.br (fun ρ p e Rm s m args below meth c H locs cells slots Z ls C k1 k2 => lv_icmp_gt C.1 C.2.1 hd ht (fun q => k1 (by have := q; simp only [Int32.lt_iff_toInt_lt, Int32.le_iff_toInt_le, ← Int32.toInt_inj] at this; omega)) (fun q => k2 (by have := q; simp only [Int32.lt_iff_toInt_lt, Int32.le_iff_toInt_le, ← Int32.toInt_inj] at this; omega))) (fun b => b.tl.tl) h1 h2
theorem ar_if_le {x : Int32} {off : Int} {tgt : Nat} (hd : decode M.2.2.1 pc = .ok (.ifCond .le off, 3)) (ht : (pc : Int) + off = (tgt : Int)) (h1 : x.toInt ≤ 0 → am_J Γ M Q d k n tgt L st I Lg R G) (h2 : 0 < x.toInt → am_J Γ M Q d k n (pc + 3) L st I Lg R G) : am_J Γ M Q d k n pc L (vI x :: st) I Lg R G :=
  am_J.br (fun ρ p e Rm s m args below meth c H locs cells slots Z ls C k1 k2 => lv_if_le C.1 C.2.1 hd ht (fun q => k1 (by have := q; simp only [Int32.lt_iff_toInt_lt, Int32.le_iff_toInt_le, ← Int32.toInt_inj, Int32.toInt_zero] at this; omega)) (fun q => k2 (by have := q; simp only [Int32.lt_iff_toInt_lt, Int32.le_iff_toInt_le, ← Int32.toInt_inj, Int32.toInt_zero] at this; omega))) (fun b => b.tl) h1 h2
theorem ar_ic_le {x y : Int32} {off : Int} {tgt : Nat} (hd : decode M.2.2.1 pc = .ok (.if_icmp .le off, 3)) (ht : (pc : Int) + off = (tgt : Int)) (h1 : x.toInt ≤ y.toInt → am_J Γ M Q d k n tgt L st I Lg R G) (h2 : y.toInt < x.toInt → am_J Γ M Q d k n (pc + 3) L st I Lg R G) : am_J Γ M Q d k n pc L (vI y :: vI x :: st) I Lg R G :=
  am_J.br (fun ρ p e Rm s m args below meth c H locs cells slots Z ls C k1 k2 => lv_icmp_le C.1 C.2.1 hd ht (fun q => k1 (by have := q; simp only [Int32.lt_iff_toInt_lt, Int32.le_iff_toInt_le, ← Int32.toInt_inj] at this; omega)) (fun q => k2 (by have := q; simp only [Int32.lt_iff_toInt_lt, Int32.le_iff_toInt_le, ← Int32.toInt_inj] at this; omega))) (fun b => b.tl.tl) h1 h2
theorem ar_goto {off : Int} {tgt : Nat} (hd : decode M.2.2.1 pc = .ok (.goto off, 3)) (ht : (pc : Int) + off = (tgt : Int)) (h : am_J Γ M Q d k n tgt L st I Lg R G) : am_J Γ M Q d k n pc L st I Lg R G :=
  am_J.step (fun ρ p e Rm s m args below meth c H locs cells slots Z ls C hl kk => lv_goto C.1 C.2.1 hd ht (kk ls hl)) (fun a b => ⟨a, b⟩) h
theorem ar_null (hd : decode M.2.2.1 pc = .ok (.aconst_null, 1)) (h : am_J Γ M Q d k n (pc + 1) L (vN :: st) I Lg R G) : am_J Γ M Q d k n pc L st I Lg R G :=
  am_J.step (fun ρ p e Rm s m args below meth c H locs cells slots Z ls C hl kk => lv_null C.1 C.2.1 hd (kk ls hl)) (fun a b => ⟨a, am_okS.cons (v := vN) trivial b⟩) h
theorem ar_ifnull {a b : Nat} {off : Int} (hd : decode M.2.2.1 pc = .ok (.ifnull off, 3)) (h : am_J Γ M Q d k n (pc + 3) L st I Lg R G) : am_J Γ M Q d k n pc L (vR a b :: st) I Lg R G :=
  am_J.step (fun ρ p e Rm s m args below meth c H locs cells slots Z ls C hl kk => lv_ifnull C.1 C.2.1 hd (kk ls hl)) (fun a b => ⟨a, b.tl⟩) h
theorem ar_ifnullN {off : Int} {tgt : Nat} (hd : decode M.2.2.1 pc = .ok (.ifnull off, 3)) (ht : (pc : Int) + off = (tgt : Int)) (h : am_J Γ M Q d k n tgt L st I Lg R G) : am_J Γ M Q d k n pc L (vN :: st) I Lg R G :=
  am_J.step (fun ρ p e Rm s m args below meth c H locs cells slots Z ls C hl kk => lv_ifnullN C.1 C.2.1 hd ht (kk ls hl)) (fun a b => ⟨a, b.tl⟩) h
theorem ar_ifnonnull {a b : Nat} {off : Int} {tgt : Nat} (hd : decode M.2.2.1 pc = .ok (.ifnonnull off, 3)) (ht : (pc : Int) + off = (tgt : Int)) (h : am_J Γ M Q d k n tgt L st I Lg R G) : am_J Γ M Q d k n pc L (vR a b :: st) I Lg R G :=
  am_J.step (fun ρ p e Rm s m args below meth c H locs cells slots Z ls C hl kk => lv_ifnonnull C.1 C.2.1 hd ht (kk ls hl)) (fun a b => ⟨a, b.tl⟩) h
theorem ar_ifnonnullN {off : Int} (hd : decode M.2.2.1 pc = .ok (.ifnonnull off, 3)) (h : am_J Γ M Q d k n (pc + 3) L st I Lg R G) : am_J Γ M Q d k n pc L (vN :: st) I Lg R G :=
  am_J.step (fun ρ p e Rm s m args below meth c H locs cells slots Z ls C hl kk => lv_ifnonnullN C.1 C.2.1 hd (kk ls hl)) (fun a b => ⟨a, b.tl⟩) h
theorem ar_dup {v : AV} (hc : ∀ ρ, (am_con ρ v).category = 1) (hd : decode M.2.2.1 pc = .ok (.dup, 1)) (h : am_J Γ M Q d k n (pc + 1) L (v :: v :: st) I Lg R G) : am_J Γ M Q d k n pc L (v :: st) I Lg R G :=
  am_J.step (fun ρ p e Rm s m args below meth c H locs cells slots Z ls C hl kk => lv_dup C.1 C.2.1 hd (hc ρ) (kk ls hl)) (fun a b => ⟨a, am_okS.cons b.hd b⟩) h
theorem ar_dup2 {v w : AV} (hc : ∀ ρ, (am_con ρ v).category = 1) (hw : ∀ ρ, (am_con ρ w).category = 1) (hd : decode M.2.2.1 pc = .ok (.dup2, 1)) (h : am_J Γ M Q d k n (pc + 1) L (v :: w :: v :: w :: st) I Lg R G) : am_J Γ M Q d k n pc L (v :: w :: st) I Lg R G :=
  am_J.step (fun ρ p e Rm s m args below meth c H locs cells slots Z ls C hl kk => lv_dup2_11 C.1 C.2.1 hd (hc ρ) (hw ρ) (kk ls hl)) (fun a b => ⟨a, am_okS.cons b.hd (am_okS.cons b.tl.hd b)⟩) h
theorem ar_pop {v : AV} (hc : ∀ ρ, (am_con ρ v).category = 1) (hd : decode M.2.2.1 pc = .ok (.pop, 1)) (h : am_J Γ M Q d k n (pc + 1) L st I Lg R G) : am_J Γ M Q d k n pc L (v :: st) I Lg R G :=
  am_J.step (fun ρ p e Rm s m args below meth c H locs cells slots Z ls C hl kk => lv_pop C.1 C.2.1 hd (hc ρ) (kk ls hl)) (fun a b => ⟨a, b.tl⟩) h
end AMR
