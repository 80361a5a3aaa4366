/-! A SCORE as a text: what it tells. -/
abbrev LST : Type := List EV
abbrev FRM : Type := Int × Int × LST
/-- place, storms told (name, events), the name of the open one, the events at the top meanwhile, the events where times stand, the open times (the innermost first: how often, every, events) -/
abbrev PP : Type := Nat × List (List Int × LST) × Option (List Int) × LST × LST × List FRM
abbrev FLT : Type := Int × Nat
def eNum (t : TK) (a b : Int) : Option FLT := if t.1 ≠ 2 then some (1, t.2.1) else if t.2.2.2 < a ∨ b < t.2.2.2 then some (2, t.2.1) else none
def eWord (bs : Nat → Int) (t : TK) (w : List Int) : Option FLT := if isW bs t w then none else some (1, t.2.1)
def eSemi (t : TK) : Option FLT := if t.1 = 3 then none else some (1, t.2.1)
abbrev TK.en (t : TK) : Nat := t.2.2.1
abbrev TK.st (t : TK) : Nat := t.2.1
abbrev TK.val (t : TK) : Int := t.2.2.2
def useA (sz : Nat) (bs : Nat → Int) (l : List MC) (p : Nat) : (Nat × EV) ⊕ FLT :=
  match eNum (tokA sz bs p) 0 2000 with
  | some f => .inr f
  | none => match eWord bs (tokA sz bs (tokA sz bs p).en) kUse with
  | some f => .inr f
  | none => match eNum (tokA sz bs (tokA sz bs (tokA sz bs p).en).en) 0 (l.length - 1) with
  | some f => .inr f
  | none => if isW bs (tokA sz bs (tokA sz bs (tokA sz bs (tokA sz bs p).en).en).en) kWith then
      (match eNum (tokA sz bs (tokA sz bs (tokA sz bs (tokA sz bs (tokA sz bs p).en).en).en).en) (leastN (mof l (tokA sz bs (tokA sz bs (tokA sz bs p).en).en).val)) (mostN (mof l (tokA sz bs (tokA sz bs (tokA sz bs p).en).en).val)) with
      | some f => .inr f
      | none => match eSemi (tokA sz bs (tokA sz bs (tokA sz bs (tokA sz bs (tokA sz bs (tokA sz bs p).en).en).en).en).en) with
      | some f => .inr f
      | none => .inl ((tokA sz bs (tokA sz bs (tokA sz bs (tokA sz bs (tokA sz bs (tokA sz bs p).en).en).en).en).en).en, ((tokA sz bs p).val, (tokA sz bs (tokA sz bs (tokA sz bs p).en).en).val, (tokA sz bs (tokA sz bs (tokA sz bs (tokA sz bs (tokA sz bs p).en).en).en).en).val)))
    else (match eSemi (tokA sz bs (tokA sz bs (tokA sz bs (tokA sz bs p).en).en).en) with
      | some f => .inr f
      | none => .inl ((tokA sz bs (tokA sz bs (tokA sz bs (tokA sz bs p).en).en).en).en, ((tokA sz bs p).val, (tokA sz bs (tokA sz bs (tokA sz bs p).en).en).val, 1)))
def findS (w : List Int) : List (List Int × LST) → Option LST
  | [] => none
  | s :: r => if s.1 = w then some s.2 else findS w r
def playA (sz : Nat) (bs : Nat → Int) (ss : List (List Int × LST)) (p : Nat) : (Nat × LST × Int) ⊕ FLT :=
  if ¬ isNm bs (tokA sz bs p) then .inr (1, (tokA sz bs p).st) else
  match findS (twd bs (tokA sz bs p)) ss with
  | none => .inr (3, (tokA sz bs p).st)
  | some es => match eWord bs (tokA sz bs (tokA sz bs p).en) kAt with
  | some f => .inr f
  | none => match eNum (tokA sz bs (tokA sz bs (tokA sz bs p).en).en) 0 2000 with
  | some f => .inr f
  | none => match eSemi (tokA sz bs (tokA sz bs (tokA sz bs (tokA sz bs p).en).en).en) with
  | some f => .inr f
  | none => .inl ((tokA sz bs (tokA sz bs (tokA sz bs (tokA sz bs p).en).en).en).en, es, (tokA sz bs (tokA sz bs (tokA sz bs p).en).en).val)
def timesA (sz : Nat) (bs : Nat → Int) (p : Nat) : (Nat × Int × Int) ⊕ FLT :=
  match eNum (tokA sz bs p) 1 20 with
  | some f => .inr f
  | none => match eWord bs (tokA sz bs (tokA sz bs p).en) kEvery with
  | some f => .inr f
  | none => match eNum (tokA sz bs (tokA sz bs (tokA sz bs p).en).en) 1 2000 with
  | some f => .inr f
  | none => .inl ((tokA sz bs (tokA sz bs (tokA sz bs p).en).en).en, (tokA sz bs p).val, (tokA sz bs (tokA sz bs (tokA sz bs p).en).en).val)
def addL (base : LST) (fr : List FRM) (es : LST) : LST × List FRM := match fr with
  | [] => (base ++ es, [])
  | f :: r => (base, (f.1, f.2.1, f.2.2 ++ es) :: r)
/-- what is in times, done so often -/
def repL (es : LST) (every : Int) : Nat → LST
  | 0 => []
  | n + 1 => repL es every n ++ es.map (shE (n * every))
def pieceA (sz : Nat) (bs : Nat → Int) (l : List MC) (t : TK) (P : PP) : PP ⊕ FLT :=
  if isW bs t kAt then (match useA sz bs l t.en with
    | .inr f => .inr f
    | .inl (p, e) => .inl (p, P.2.1, P.2.2.1, P.2.2.2.1, addL P.2.2.2.2.1 P.2.2.2.2.2 [e]))
  else if isW bs t kPlay then (match playA sz bs P.2.1 t.en with
    | .inr f => .inr f
    | .inl (p, es, lt) => .inl (p, P.2.1, P.2.2.1, P.2.2.2.1, addL P.2.2.2.2.1 P.2.2.2.2.2 (es.map (shE lt))))
  else if isW bs t kTimes then (if P.2.2.2.2.2.length = 4 then .inr (3, t.st) else match timesA sz bs t.en with
    | .inr f => .inr f
    | .inl (p, m, ev) => .inl (p, P.2.1, P.2.2.1, P.2.2.2.1, P.2.2.2.2.1, (m, ev, []) :: P.2.2.2.2.2))
  else if isW bs t kEnd then (match P.2.2.2.2.2, P.2.2.1 with
    | f :: r, _ => .inl (t.en, P.2.1, P.2.2.1, P.2.2.2.1, addL P.2.2.2.2.1 r (repL f.2.2 f.2.1 f.1.toNat))
    | [], some w => .inl (t.en, P.2.1 ++ [(w, P.2.2.2.2.1)], none, [], P.2.2.2.1, [])
    | [], none => .inr (1, t.st))
  else if isW bs t kStorm then (match P.2.2.2.2.2, P.2.2.1 with
    | [], none => if P.2.1.length = 8 then .inr (3, t.st) else if ¬ isNm bs (tokA sz bs t.en) then .inr (1, (tokA sz bs t.en).st) else if (findS (twd bs (tokA sz bs t.en)) P.2.1).isSome then .inr (3, (tokA sz bs t.en).st) else .inl ((tokA sz bs t.en).en, P.2.1, some (twd bs (tokA sz bs t.en)), P.2.2.2.2.1, [], [])
    | _, _ => .inr (1, t.st))
  else .inr (1, t.st)
def parseA (sz : Nat) (bs : Nat → Int) (l : List MC) : Nat → PP → PP ⊕ FLT
  | 0, P => .inl P
  | f + 1, P => if (tokA sz bs P.1).1 = 0 ∧ P.2.2.2.2.2 = [] ∧ P.2.2.1 = none then .inl P else match pieceA sz bs l (tokA sz bs P.1) P with
    | .inr e => .inr e
    | .inl P' => parseA sz bs l f P'
def badL (L : LST) : Prop := 24 < L.length ∨ ∃ e ∈ L, 4000 < e.1
def PP0 : PP := (0, [], none, [], [], [])
/-- what is wrong, or the events as they came -/
noncomputable def scoreA (sz : Nat) (bs : Nat → Int) (l : List MC) : LST ⊕ FLT := match parseA sz bs l 641 PP0 with
  | .inr f => .inr f
  | .inl P => if 600 < sz then .inr (1, 600) else (haveI := Classical.propDecidable (badL P.2.2.2.2.1); if badL P.2.2.2.2.1 then .inr (4, sz) else .inl P.2.2.2.2.1)
