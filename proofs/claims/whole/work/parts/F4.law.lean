/-! The law's body: its code table, what it reads of the script. -/
def am_vldR (M : MD) (rows : List (List CE)) (a n : Nat) : Bool := (List.range n).all (fun k => am_chk M (a + k) (am_lk am_ce0 rows (a + k)))
theorem am_vldR_ok {M : MD} {rows : List (List CE)} {a n : Nat} (h : am_vldR M rows a n = true) {pc : Nat} (h0 : a ≤ pc) (h1 : pc < a + n) : am_chk M pc (am_lk am_ce0 rows pc) = true := by
  have := List.all_eq_true.mp h (pc - a) (List.mem_range.mpr (by omega))
  rwa [show a + (pc - a) = pc by omega] at this
set_option maxRecDepth 100000 in
theorem vL_law_0 : am_vldR mL_law kL_law 0 80 = true := by decide +kernel
set_option maxRecDepth 100000 in
theorem vL_law_80 : am_vldR mL_law kL_law 80 80 = true := by decide +kernel
set_option maxRecDepth 100000 in
theorem vL_law_160 : am_vldR mL_law kL_law 160 80 = true := by decide +kernel
set_option maxRecDepth 100000 in
theorem vL_law_240 : am_vldR mL_law kL_law 240 80 = true := by decide +kernel
set_option maxRecDepth 100000 in
theorem vL_law_320 : am_vldR mL_law kL_law 320 80 = true := by decide +kernel
set_option maxRecDepth 100000 in
theorem vL_law_400 : am_vldR mL_law kL_law 400 80 = true := by decide +kernel
set_option maxRecDepth 100000 in
theorem vL_law_480 : am_vldR mL_law kL_law 480 80 = true := by decide +kernel
set_option maxRecDepth 100000 in
theorem vL_law_560 : am_vldR mL_law kL_law 560 80 = true := by decide +kernel
set_option maxRecDepth 100000 in
theorem vL_law_640 : am_vldR mL_law kL_law 640 80 = true := by decide +kernel
set_option maxRecDepth 100000 in
theorem vL_law_720 : am_vldR mL_law kL_law 720 80 = true := by decide +kernel
set_option maxRecDepth 100000 in
theorem vL_law_800 : am_vldR mL_law kL_law 800 80 = true := by decide +kernel
set_option maxRecDepth 100000 in
theorem vL_law_880 : am_vldR mL_law kL_law 880 71 = true := by decide +kernel
theorem vL_law_rows : am_rowsOk 951 kL_law = true := by decide +kernel
theorem vL_law : ∀ pc, am_chk mL_law pc (am_lk am_ce0 kL_law pc) = true := fun pc => by
  by_cases h80 : pc < 80
  · exact am_vldR_ok vL_law_0 (by omega) (by omega)
  by_cases h160 : pc < 160
  · exact am_vldR_ok vL_law_80 (by omega) (by omega)
  by_cases h240 : pc < 240
  · exact am_vldR_ok vL_law_160 (by omega) (by omega)
  by_cases h320 : pc < 320
  · exact am_vldR_ok vL_law_240 (by omega) (by omega)
  by_cases h400 : pc < 400
  · exact am_vldR_ok vL_law_320 (by omega) (by omega)
  by_cases h480 : pc < 480
  · exact am_vldR_ok vL_law_400 (by omega) (by omega)
  by_cases h560 : pc < 560
  · exact am_vldR_ok vL_law_480 (by omega) (by omega)
  by_cases h640 : pc < 640
  · exact am_vldR_ok vL_law_560 (by omega) (by omega)
  by_cases h720 : pc < 720
  · exact am_vldR_ok vL_law_640 (by omega) (by omega)
  by_cases h800 : pc < 800
  · exact am_vldR_ok vL_law_720 (by omega) (by omega)
  by_cases h880 : pc < 880
  · exact am_vldR_ok vL_law_800 (by omega) (by omega)
  by_cases h951 : pc < 951
  · exact am_vldR_ok vL_law_880 (by omega) (by omega)
  rw [am_lk_out _ _ 951 pc vL_law_rows (by omega)]
  rfl
