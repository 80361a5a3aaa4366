/-! The kit state at the start. -/
def txt (q : Nat) : List Int := match q with
  | 3 => [110, 111, 32, 115, 117, 99, 104, 32, 69, 86, 69, 78, 84]
  | 4 => [110, 111, 32, 115, 117, 99, 104, 32, 75, 78, 79, 67, 75]
  | 5 => [110, 111, 32, 115, 117, 99, 104, 32, 83, 79, 85, 78, 68]
  | q => kwOf q
def tmO (q : Nat) : Term := match q with
  | 0 => .string "StormLoft$Reader" 63
  | 1 => .string "StormLoft$Reader" 88
  | 2 => .string "StormLoft$Reader" 149
  | 3 => .string "StormLoft" 171
  | 4 => .string "StormLoft" 131
  | 5 => .string "StormLoft" 195
  | 6 => .string "StormLoft$Reader" 78
  | 7 => .string "StormLoft$Reader" 83
  | 8 => .string "StormLoft$Reader" 73
  | 9 => .string "StormLoft$Reader" 124
  | _ => .string "StormLoft$Reader" 133
def lenO : List Nat := (List.range 11).map (fun q => (txt q).length)
def bytO : List (List Int32) := (List.range 11).map (fun q => (txt q).map zI)
abbrev flO : List Cond := flatC (Cond.and given_1 narrow_1)
theorem fl_ex : ∀ i, i < 11 → Cond.exactly (tmO i) "java/lang/String" ∈ flO := by decide +kernel
theorem fl_co : ∀ i, i < 11 → Cond.eq (.field (tmO i) "java/lang/String" "coder" "B") (.int 0) ∈ flO := by decide +kernel
theorem fl_ar : ∀ i, i < 11 → Cond.arrayOf (.field (tmO i) "java/lang/String" "value" "[B") .byte ∈ flO := by decide +kernel
theorem fl_le : ∀ i, i < 11 → Cond.eq (.length (.field (tmO i) "java/lang/String" "value" "[B")) (.int (Int32.ofNat (lenO.getD i 0))) ∈ flO := by decide +kernel
theorem fl_el : ∀ i, i < 11 → ∀ j, j < lenO.getD i 0 → Cond.eq (.elem (.field (tmO i) "java/lang/String" "value" "[B") (.int (Int32.ofNat j))) (.int ((bytO.getD i []).getD j 0)) ∈ flO := by decide +kernel
theorem fl_ne : ∀ i, i < 11 → ∀ j, j < 11 → i ≠ j → Cond.not (Cond.eq (tmO i) (tmO j)) ∈ flO ∨ Cond.not (Cond.eq (tmO j) (tmO i)) ∈ flO := by decide +kernel
