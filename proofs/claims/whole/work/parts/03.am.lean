/-! The abstract machine (AM): values without addresses, state by named variables, a judgement am_J over the kit's W, contracts am_Sp over Met, and a program am_adv that walks a method's code and leaves what is to be shown. -/
abbrev AV : Type := Int32 ⊕ (Int64 ⊕ Option (Nat × Nat))
abbrev II : Type := Nat → Nat → Nat → Int32
abbrev LJ : Type := Nat → Nat → Nat → Int64
abbrev RR : Type := Nat → Nat → Nat → Option Nat
abbrev GG : Type := (Nat → Nat → Nat → Bool) × (Nat → Nat)
abbrev QQ : Type := Option AV → II → LJ → RR → GG → Prop
abbrev LL : Type := List (Option AV)
abbrev vI (x : Int32) : AV := Sum.inl x
abbrev vL (x : Int64) : AV := Sum.inr (Sum.inl x)
abbrev vR (c i : Nat) : AV := Sum.inr (Sum.inr (some (c, i)))
abbrev vN : AV := Sum.inr (Sum.inr none)
def zI (z : Int) : Int32 := Int32.ofInt z
def zL (z : Int) : Int64 := Int64.ofInt z
def up3 {α : Type} (f : Nat → Nat → Nat → α) (v i j : Nat) (x : α) : Nat → Nat → Nat → α := fun v' i' j' => if v' = v ∧ i' = i ∧ j' = j then x else f v' i' j'
def up1 {α : Type} (f : Nat → α) (v : Nat) (x : α) : Nat → α := fun v' => if v' = v then x else f v'
/-- the global context: launch, class numbers, array class numbers, addresses of old things (texts), the script, the heap at the start, what else the tables say -/
abbrev AMG : Type := Launch × va_G × (Nat → ClassId) × (Nat → Nat) × (Nat × Nat × (Nat → Int32)) × Heap × (State → Prop)
abbrev AMG.l (Γ : AMG) : Launch := Γ.1
abbrev AMG.D (Γ : AMG) : va_G := Γ.2.1
abbrev AMG.cy (Γ : AMG) : Nat → ClassId := Γ.2.2.1
abbrev AMG.SA (Γ : AMG) : Nat → Nat := Γ.2.2.2.1
abbrev AMG.scr (Γ : AMG) : Nat × Nat × (Nat → Int32) := Γ.2.2.2.2.1
abbrev AMG.HH (Γ : AMG) : Heap := Γ.2.2.2.2.2.1
abbrev AMG.KX (Γ : AMG) : State → Prop := Γ.2.2.2.2.2.2
def am_sidx (base mul i : Nat) : Nat := match mul with
  | 0 => base
  | _ => i
def am_aidx (base j : Nat) : Nat := match base with
  | 0 => j
  | _ => base + j
/-- the reference that stands at place k of the cell (c, i) -/
def am_ref (R : RR) (G : GG) (c i k : Nat) : Option (Nat × Nat) := match am_ck c with
  | (0, _) => (match am_slot c k with
    | (3, t, b, m) => cond (G.1 c i k) (some (t, am_sidx b m i)) none
    | (4, v, t, _) => (R v i 0).map (fun b => (t, b))
    | _ => none)
  | (4, N, t, b, _) => cond (Nat.blt k N && G.1 c i k) (some (t, am_aidx b k)) none
  | (5, _, v, t, _) => (R v i k).map (fun b => (t, b))
  | _ => none
def am_val (ρ : Nat → Nat → Nat) (I : II) (Lg : LJ) (R : RR) (G : GG) (c i k : Nat) : Value := match am_slot c k with
  | (0, v, _) => .int (I v i 0)
  | (1, v, _) => .int (I v i 0)
  | (2, v, _) => .long (Lg v i 0)
  | _ => va_rf ((am_ref R G c i k).map (fun p => ρ p.1 p.2))
def am_E (Γ : AMG) (ρ : Nat → Nat → Nat) (I : II) (Lg : LJ) (R : RR) (G : GG) (c i : Nat) : va_E := match am_ck c with
  | (0, x, n, _) => .inr (x, (List.range n).map (am_val ρ I Lg R G c i))
  | (1, n, v, _, t) => .inl (Γ.cy t, n, .inl (I v i))
  | (2, n, v, _, t) => .inl (Γ.cy t, n, .inl (I v i))
  | (3, n, v, _, t) => .inl (Γ.cy t, n, .inr (.inl (Lg v i)))
  | (_, n, _, _, t) => .inl (Γ.cy t, n, .inr (.inr (.inr (.inr (fun k => (am_ref R G c i k).map (fun p => ρ p.1 p.2))))))
def am_con (ρ : Nat → Nat → Nat) : AV → Value
  | .inl x => .int x
  | .inr (.inl x) => .long x
  | .inr (.inr none) => .null
  | .inr (.inr (some (c, i))) => .ref (ρ c i)
/-- a reference is to a cell that is there, or to an old one -/
def am_okR (G : GG) (c i : Nat) : Prop := (c < am_NC ∧ i < G.2 c) ∨ am_NC ≤ c
def am_ok (G : GG) : AV → Prop
  | .inr (.inr (some (c, i))) => am_okR G c i
  | _ => True
def am_okL (nL : Nat) (G : GG) (L : LL) : Prop := L.length = nL ∧ ∀ v, some v ∈ L → am_ok G v
def am_okS (G : GG) (st : List AV) : Prop := ∀ v ∈ st, am_ok G v
/-- nothing stands yet in the cell (c, i) -/
def am_zero (c i : Nat) (I : II) (Lg : LJ) (R : RR) (G : GG) : Prop := (∀ v j, (am_oI v).1 = c → I v i j = 0) ∧ (∀ v j, (am_oL v).1 = c → Lg v i j = 0) ∧ (∀ v j, (am_oR v).1 = c → R v i j = none) ∧ ∀ k, G.1 c i k = false
/-- the world: the heap holds the cells that the state tells of -/
def am_Wd (Γ : AMG) (ρ : Nat → Nat → Nat) (I : II) (Lg : LJ) (R : RR) (G : GG) (H : Heap) : Prop :=
  (∀ c i : Nat, c < am_NC → i < G.2 c → va_at Γ.D vwCl (ρ c i, am_E Γ ρ I Lg R G c i) H) ∧
  (∀ c i c' i' : Nat, c < am_NC → c' < am_NC → i < G.2 c → i' < G.2 c' → ρ c i = ρ c' i' → c = c' ∧ i = i') ∧
  (∀ c i : Nat, c < am_NC → i < G.2 c → Γ.HH.size ≤ ρ c i) ∧
  (∀ k : Nat, ρ am_cStr k = Γ.SA k) ∧ (∀ k : Nat, ρ am_cScr k = Γ.scr.1) ∧
  Γ.HH.size ≤ H.size ∧ (∀ q : Nat, q < Γ.HH.size → H[q]? = Γ.HH[q]?) ∧
  (∀ c i k c' i' : Nat, c < am_NC → i < G.2 c → am_ref R G c i k = some (c', i') → c' < am_NC ∧ i' < G.2 c') ∧
  (∀ c i : Nat, c < am_NC → G.2 c ≤ i → G.1 1000 c 0 = false → am_zero c i I Lg R G)
def am_Ext (ρ : Nat → Nat → Nat) (G : GG) (ρ' : Nat → Nat → Nat) (G' : GG) : Prop := (∀ c : Nat, G.2 c ≤ G'.2 c) ∧ ∀ c i : Nat, am_okR G c i → ρ' c i = ρ c i
theorem am_Ext.rf {ρ : Nat → Nat → Nat} {G : GG} : am_Ext ρ G ρ G := ⟨fun _ => Nat.le_refl _, fun _ _ _ => rfl⟩
theorem am_okR.ext {ρ ρ' : Nat → Nat → Nat} {G G' : GG} {c i : Nat} (h : am_Ext ρ G ρ' G') (hk : am_okR G c i) : am_okR G' c i := hk.elim (fun z => Or.inl ⟨z.1, Nat.lt_of_lt_of_le z.2 (h.1 c)⟩) Or.inr
theorem am_Ext.tr {ρ ρ' ρ2 : Nat → Nat → Nat} {G G' G2 : GG} (h : am_Ext ρ G ρ' G') (h2 : am_Ext ρ' G' ρ2 G2) : am_Ext ρ G ρ2 G2 := ⟨fun c => Nat.le_trans (h.1 c) (h2.1 c), fun c i k => (h2.2 c i (k.ext h)).trans (h.2 c i k)⟩
/-- a method: its class, name, code, locals, answer, number of arguments -/
abbrev MD : Type := String × MethodName × ByteArray × Nat × Option FieldType × Nat
/-- a place of a method's code: the instruction, the next place, whether a loop begins here, notes, the method that is called -/
abbrev CE : Type := Instr × Nat × Bool × List Nat × MD
def am_BIG : List Cond := lw_tbl.filter goodWord
def am_tys (Γ : AMG) : List (ClassId × FieldType) := [(Γ.cy 0, .int), (Γ.cy 1, .boolean), (Γ.cy 2, .long), (Γ.cy 3, .object "StormLoft$Board"), (Γ.cy 4, .object "StormLoft$Path"), (Γ.cy 5, .object "StormLoft$Plan"), (Γ.cy 6, .object "StormLoft$Ball"), (Γ.cy 7, .array .int)]
/-- what the tables say, beside the words that keep -/
def am_K (Γ : AMG) (U : State) : Prop := va_K Γ.D vwCl (am_tys Γ) U ∧ Γ.KX U
/-- Γ's own part moves with the machine -/
def am_GK (Γ : AMG) : Prop := (∀ s U : State, Γ.KX s → s.WarmedH U.vm → Γ.KX U) ∧ (∀ u U : State, Γ.KX u → u.vm = U.vm → Γ.KX U)
def am_Cx (Γ : AMG) (M : MD) (p : Program) (s : State) (m : MethodId) (args : Array Value) (meth : Method) (c : Code) : Prop :=
  p.tables.exec = Jvm.exec ∧ c.code = M.2.2.1 ∧ c.maxLocals = M.2.2.2.1 ∧ meth.sig.returnType = M.2.2.2.2.1 ∧ meth.locks = false ∧ s.vm.findClass M.1 = some m.cls ∧ (∀ w ∈ am_BIG, w.before args s = true) ∧ (M.2.1.name = "<init>" → meth.name = "<init>") ∧ am_K Γ s ∧ am_GK Γ
def am_hL (ρ : Nat → Nat → Nat) (ls : Array Slot) (L : LL) : Prop := ls.size = L.length ∧ lv_wf ls ∧ ∀ (i : Nat) (v : AV), L[i]? = some (some v) → ls[i]? = some (.val (am_con ρ v))
/-- the instruction at pc gives back that answer (or, in a method that is marked so by its number of arguments, it is where one throws) -/
def am_At (M : MD) (pc : Nat) (ls : Array Slot) : Option AV → Prop
  | none => (decode M.2.2.1 pc = .ok (.return_, 1) ∧ M.2.2.2.2.1 = none) ∨ (M.2.2.2.2.2 = 100 + pc ∧ ls.size = M.2.2.2.1)
  | some (.inl x) => decode M.2.2.1 pc = .ok (.ireturn, 1) ∧ (M.2.2.2.2.1 = some .int ∨ M.2.2.2.2.1 = some .boolean ∧ (x = zI 0 ∨ x = zI 1))
  | some (.inr (.inl _)) => decode M.2.2.1 pc = .ok (.lreturn, 1) ∧ M.2.2.2.2.1 = some .long
  | some (.inr (.inr _)) => decode M.2.2.1 pc = .ok (.areturn, 1) ∧ ∃ n, M.2.2.2.2.1 = some (.object n)
abbrev am_LOC : Nat := 48
/-- THE JUDGEMENT: from here the method comes to its end with Q; d: how many calls deep, k, n: how many cells and slots it may still make -/
def am_J (Γ : AMG) (M : MD) (Q : QQ) (d k n pc : Nat) (L : LL) (st : List AV) (I : II) (Lg : LJ) (R : RR) (G : GG) : Prop :=
  ∀ (ρ : Nat → Nat → Nat) (p : Program) (e : Env) (Rm : Room) (s : State) (m : MethodId) (args : Array Value) (below : List Frame) (meth : Method) (c : Code) (H : Heap) (locs : List Loc) (cells slots : Nat) (Z : State → Prop),
    am_Cx Γ M p s m args meth c → d ≤ Rm.frames → am_LOC * d ≤ Rm.locals → cells + k ≤ Rm.cells → slots + n ≤ Rm.slots → am_Wd Γ ρ I Lg R G H → (∀ q ∈ locs, Γ.HH.size ≤ q.base) → am_okL M.2.2.2.1 G L → am_okS G st →
    (∀ (ρ' : Nat → Nat → Nat) (r : Option AV) (I' : II) (Lg' : LJ) (R' : RR) (G' : GG) (H' : Heap) (locs' : List Loc) (cells' slots' pc' : Nat) (ls' : Array Slot), am_Wd Γ ρ' I' Lg' R' G' H' → am_Ext ρ G ρ' G' → (∀ v ∈ r, am_ok G' v) → (∀ q ∈ locs', Γ.HH.size ≤ q.base) → cells' ≤ cells + k → slots' ≤ slots + n → Q r I' Lg' R' G' → am_At M pc' ls' r →
      W p Γ.l e Rm s m args below meth c H' locs' cells' slots' Z (F0 m pc' ls' (r.toList.map (am_con ρ')))) →
    ∀ ls : Array Slot, am_hL ρ ls L → W p Γ.l e Rm s m args below meth c H locs cells slots Z (F0 m pc ls (st.map (am_con ρ)))
def am_ws (M : MD) : List Cond := .code M.2.1 M.2.2.1 M.2.2.2.1 M.2.2.2.2.1 :: am_BIG
def am_rm (d k n : Nat) : Room := { frames := d, cells := k, slots := n, locals := am_LOC * d }
def am_Pc (Γ : AMG) (ρ : Nat → Nat → Nat) (args : List AV) (I : II) (Lg : LJ) (R : RR) (G : GG) : Array Value → State → Prop := fun a U => a = (args.map (am_con ρ)).toArray ∧ am_K Γ U ∧ am_Wd Γ ρ I Lg R G U.heap
def am_Qc (Γ : AMG) (Q : QQ) (ρ : Nat → Nat → Nat) (G : GG) : Array Value → State → Outcome → State → Prop := fun _ _ o t => ∃ (ρ' : Nat → Nat → Nat) (r : Option AV) (I' : II) (Lg' : LJ) (R' : RR) (G' : GG), o = .returned (r.map (am_con ρ')) ∧ am_Wd Γ ρ' I' Lg' R' G' t.heap ∧ am_Ext ρ G ρ' G' ∧ (∀ v ∈ r, am_ok G' v) ∧ Q r I' Lg' R' G'
/-- THE CONTRACT of a method: with these arguments, in this state, it comes to its end with Q -/
def am_Sp (Γ : AMG) (d k n : Nat) (M : MD) (args : List AV) (I : II) (Lg : LJ) (R : RR) (G : GG) (Q : QQ) : Prop :=
  ∀ ρ : Nat → Nat → Nat, am_GK Γ → am_okS G args → Met Γ.l M.2.1 (am_ws M) (am_rm d k n) (am_Pc Γ ρ args I Lg R G) (am_Qc Γ Q ρ G) k n (fun q => Γ.HH.size ≤ q)
