/-! The class begins to read; what a piece is. -/
theorem s_rewind {Γ : AMG} {Q : QQ} {d : Nat} {I : II} {Lg : LJ} {R : RR} {G : GG} (h : ∀ I' : II, FrI (V0 [41]) I I' → I' 41 0 0 = zI 0 → Q none I' Lg R G) : am_Sp Γ d 0 0 mX10_rewind [vR 10 0] I Lg R G Q := by
  refine am_run vX10_rewind 40 _ rfl rfl rfl rfl ?_
  exact h _ (FrI.rf.up rfl) (up3_s ..)
set_option maxRecDepth 100000 in
theorem s_begin {Γ : AMG} {Q : QQ} {d sz : Nat} {bs : Nat → Int} {I : II} {Lg : LJ} {R : RR} {gc : Nat → Nat} (h : ∀ (I' : II) (R' : RR), FrC R R' → FrI VRD I I' → I' 37 0 0 = zI 0 → I' 41 0 0 = zI 0 → CPs I' R' sz bs PP0 → Q none I' Lg R' (GM gc)) : am_Sp Γ (d + 1) 0 0 mX9_begin [vR 9 0, vR 10 0] I Lg R (GM gc) Q := by
  refine am_runN vX9_begin 2 _ rfl rfl rfl rfl ?_
  refine s_rewind (fun I1 f1 a1 => ?_)
  refine am_goN vX9_begin 3 ?_
  refine s_pclear (fun I2 f2 p2 => ?_)
  refine am_goN vX9_begin 60 ?_
  refine And.intro rfl ?_
  refine fun y1 ey1 I3 e3 y2 ey2 I4 e4 y3 ey3 I5 e5 y4 ey4 I6 e6 => ?_
  have f6 : FrI (V0 [35, 36, 37, 38]) I2 I6 := by
    rw [e6, e5, e4, e3]
    exact (((FrI.rf.up rfl).up rfl).up rfl).up rfl
  refine h I6 _ FrC.cu ((V0_rd f1 (by decide)).tr ((V1_rd f2 (by omega)).tr (V0_rd f6 (by decide)))) ?_ ?_ ⟨up3_s .., ?_, ?_, ?_, fun z => absurd rfl z, trivial, fun j s hj => by (simp [PP0] at hj), fun w hw => by (cases hw)⟩
  · rw [e6, up3_v _ (by decide), e5, up3_s, ey3]
  · rw [f6 _ _ rfl, f2 _ _ (V1_out (vs := [41]) (by decide) _ (by decide) _)]
    exact a1
  · rw [e6, up3_v _ (by decide), e5, up3_v _ (by decide), e4, up3_v _ (by decide), e3, up3_s, ey1]
    rfl
  · rw [e6, up3_v _ (by decide), e5, up3_v _ (by decide), e4, up3_s, ey2]
    rfl
  · exact p2.fr f6 (fun v hv => V0_outI (by decide) v hv 0)
theorem isW_ne {bs : Nat → Int} {t : TK} {a b : List Int} (h : isW bs t a) (hne : a ≠ b) : ¬ isW bs t b := fun q => hne (h.2.symm.trans q.2)
theorem pieceA_at {sz : Nat} {bs : Nat → Int} {l : List MC} {t : TK} {P : PP} (h : isW bs t kAt) : pieceA sz bs l t P = (match useA sz bs l t.en with
    | .inr f => .inr f
    | .inl (p, e) => .inl (withL P p (addL P.2.2.2.2.1 P.2.2.2.2.2 [e]))) := by
  unfold pieceA
  rw [if_pos h]
  rfl
theorem pieceA_play {sz : Nat} {bs : Nat → Int} {l : List MC} {t : TK} {P : PP} (h : isW bs t kPlay) : pieceA sz bs l t P = (match playA sz bs P.2.1 t.en with
    | .inr f => .inr f
    | .inl (p, es, lt) => .inl (withL P p (addL P.2.2.2.2.1 P.2.2.2.2.2 (es.map (shE lt))))) := by
  unfold pieceA
  rw [if_neg (isW_ne h (by decide)), if_pos h]
  rfl
theorem pieceA_times {sz : Nat} {bs : Nat → Int} {l : List MC} {t : TK} {P : PP} (h : isW bs t kTimes) : pieceA sz bs l t P = (if P.2.2.2.2.2.length = 4 then .inr (3, t.st) else match timesA sz bs t.en with
    | .inr f => .inr f
    | .inl (p, m, ev) => .inl (withL P p (P.2.2.2.2.1, (m, ev, []) :: P.2.2.2.2.2))) := by
  unfold pieceA
  rw [if_neg (isW_ne h (by decide)), if_neg (isW_ne h (by decide)), if_pos h]
  rfl
theorem pieceA_end9 {sz : Nat} {bs : Nat → Int} {l : List MC} {t : TK} {P : PP} (h : isW bs t kEnd) : pieceA sz bs l t P = endA t P := by
  unfold pieceA
  rw [if_neg (isW_ne h (by decide)), if_neg (isW_ne h (by decide)), if_neg (isW_ne h (by decide)), if_pos h]
  rfl
theorem pieceA_storm {sz : Nat} {bs : Nat → Int} {l : List MC} {t : TK} {P : PP} (h : isW bs t kStorm) : pieceA sz bs l t P = stoA sz bs t P := by
  unfold pieceA
  rw [if_neg (isW_ne h (by decide)), if_neg (isW_ne h (by decide)), if_neg (isW_ne h (by decide)), if_neg (isW_ne h (by decide)), if_pos h]
  rfl
theorem pieceA_no {sz : Nat} {bs : Nat → Int} {l : List MC} {t : TK} {P : PP} (h1 : ¬ isW bs t kAt) (h2 : ¬ isW bs t kPlay) (h3 : ¬ isW bs t kTimes) (h4 : ¬ isW bs t kEnd) (h5 : ¬ isW bs t kStorm) : pieceA sz bs l t P = .inr (1, t.st) := by
  unfold pieceA
  rw [if_neg h1, if_neg h2, if_neg h3, if_neg h4, if_neg h5]
theorem ltick_gt {L : LST} : (4000 < ltick L) ↔ ∃ e ∈ L, 4000 < e.1 := by
  unfold ltick
  suffices hh : ∀ a : Int, (4000 < L.foldl (fun a e => max a e.1) a) ↔ (4000 < a ∨ ∃ e ∈ L, 4000 < e.1) by
    rw [hh 0]
    exact ⟨fun q => q.elim (fun z => absurd z (by omega)) id, Or.inr⟩
  induction L with
  | nil => exact fun a => ⟨Or.inl, fun q => q.elim id (fun ⟨e, he, _⟩ => by (cases he))⟩
  | cons e L ih =>
    intro a
    show (4000 < L.foldl (fun a e => max a e.1) (max a e.1)) ↔ _
    rw [ih]
    constructor
    · rintro (q | ⟨x, hx, q⟩)
      · by_cases z : 4000 < a
        · exact Or.inl z
        · exact Or.inr ⟨e, List.mem_cons_self, by omega⟩
      · exact Or.inr ⟨x, List.mem_cons_of_mem _ hx, q⟩
    · rintro (q | ⟨x, hx, q⟩)
      · exact Or.inl (by omega)
      · rcases List.mem_cons.mp hx with rfl | hx
        · exact Or.inl (by omega)
        · exact Or.inr ⟨x, hx, q⟩
