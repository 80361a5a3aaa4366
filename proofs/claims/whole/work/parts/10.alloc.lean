/-! Cells are made. -/
theorem am_ref_zero {I : II} {Lg : LJ} {R : RR} {G : GG} {c i : Nat} (hc : c < am_NC) (h : am_zero c i I Lg R G) (k : Nat) : am_ref R G c i k = none := by
  obtain ⟨-, -, h3, h4⟩ := h
  unfold am_ref
  rcases hck : am_ck c with ⟨a, x, n, y, t⟩
  match a, hck with
  | 0, hck =>
    obtain ⟨e, hlt, -, hs⟩ := am_chk0 hck hc
    subst e
    by_cases hkn : k < n
    · have h1 := hs k hkn
      rcases hsl : am_slot x k with ⟨a, v, t, b⟩
      rw [hsl] at h1
      match a, h1 with
      | 0, _ => rfl
      | 1, _ => rfl
      | 2, _ => rfl
      | 3, _ => simp only [h4]; rfl
      | 4, h1 => simp only [h3 v 0 (by rw [h1.1])]; rfl
      | _ + 5, h1 => exact h1.elim
    · have hb : am_slot x k = (9, 0, 0, 0) := am_slot_out hck hlt (Nat.not_lt.mp hkn)
      rw [hb]
      rfl
  | 1, _ => rfl
  | 2, _ => rfl
  | 3, _ => rfl
  | 4, _ => simp only [h4, Bool.and_false]; rfl
  | 5, hck =>
    have h1 := am_chkT_ok c hc
    unfold am_chkT at h1
    rw [hck] at h1
    simp only [Bool.and_eq_true, beq_iff_eq] at h1
    simp only [h3 n k (by rw [h1.1])]
    rfl
  | _ + 6, _ => rfl
theorem am_ref_G2 {R : RR} {G G' : GG} (h : G'.1 = G.1) (c i k : Nat) : am_ref R G' c i k = am_ref R G c i k := by
  unfold am_ref
  rw [h]
/-- other addresses, and more cells counted: a cell that points nowhere else is the same -/
theorem am_E_rho {Γ : AMG} {ρ ρ' : Nat → Nat → Nat} {I : II} {Lg : LJ} {R : RR} {G G' : GG} {c i : Nat} (hG : G'.1 = G.1) (h : ∀ k c2 i2, am_ref R G c i k = some (c2, i2) → ρ' c2 i2 = ρ c2 i2) : am_E Γ ρ' I Lg R G' c i = am_E Γ ρ I Lg R G c i := by
  have hm : ∀ k, (am_ref R G' c i k).map (fun p => ρ' p.1 p.2) = (am_ref R G c i k).map (fun p => ρ p.1 p.2) := by
    intro k
    rw [am_ref_G2 hG]
    cases hr : am_ref R G c i k with
    | none => rfl
    | some q => exact congrArg some (h k q.1 q.2 hr)
  have hv : ∀ k, am_val ρ' I Lg R G' c i k = am_val ρ I Lg R G c i k := by
    intro k
    unfold am_val
    rw [hm k]
  unfold am_E
  rw [show am_val ρ' I Lg R G' c i = am_val ρ I Lg R G c i from funext hv, show (fun k => (am_ref R G' c i k).map (fun p => ρ' p.1 p.2)) = (fun k => (am_ref R G c i k).map (fun p => ρ p.1 p.2)) from funext hm]
def am_newρ (ρ : Nat → Nat → Nat) (c i a : Nat) : Nat → Nat → Nat := fun c' i' => if c' = c ∧ i' = i then a else ρ c' i'
abbrev am_newG (G : GG) (c : Nat) : GG := (G.1, up1 G.2 c (G.2 c + 1))
theorem am_newG_le {G : GG} {c : Nat} (c' : Nat) : G.2 c' ≤ (am_newG G c).2 c' := by
  show _ ≤ up1 G.2 c (G.2 c + 1) c'
  unfold up1
  split
  · next h => subst h; omega
  · exact Nat.le_refl _
theorem am_newρ_old {ρ : Nat → Nat → Nat} {G : GG} {c a c' i' : Nat} (hc : c < am_NC) (h : am_okR G c' i') : am_newρ ρ c (G.2 c) a c' i' = ρ c' i' := by
  unfold am_newρ
  rw [if_neg]
  rintro ⟨rfl, rfl⟩
  rcases h with h | h <;> omega
theorem am_new_ext {ρ : Nat → Nat → Nat} {G : GG} {c a : Nat} (hc : c < am_NC) : am_Ext ρ G (am_newρ ρ c (G.2 c) a) (am_newG G c) := ⟨am_newG_le, fun _ _ h => am_newρ_old hc h⟩
/-- the world behind a new cell -/
theorem am_Wd.new {Γ : AMG} {ρ : Nat → Nat → Nat} {I : II} {Lg : LJ} {R : RR} {G : GG} {H H1 : Heap} {c : Nat} (hW : am_Wd Γ ρ I Lg R G H) (hc : c < am_NC) (hop : G.1 1000 c 0 = false) (hz : H1.size = H.size + 1) (hq : ∀ q, q < H.size → H1[q]? = H[q]?)
    (hat : va_at Γ.D vwCl (H.size, am_E Γ (am_newρ ρ c (G.2 c) H.size) I Lg R (am_newG G c) c (G.2 c)) H1) : am_Wd Γ (am_newρ ρ c (G.2 c) H.size) I Lg R (am_newG G c) H1 := by
  obtain ⟨w1, w2, w3, w4, w5, w6, w7, w8, w9⟩ := hW
  have hcnt : ∀ c' i', i' < (am_newG G c).2 c' → ¬ (c' = c ∧ i' = G.2 c) → i' < G.2 c' := by
    intro c' i' h hne
    have h' : i' < up1 G.2 c (G.2 c + 1) c' := h
    unfold up1 at h'
    split at h'
    · next e =>
      subst e
      have : i' ≠ G.2 c' := fun q => hne ⟨rfl, q⟩
      omega
    · exact h'
  have hold : ∀ c' i', c' < am_NC → i' < G.2 c' → ρ c' i' < H.size := fun c' i' h1 h2 => (w1 c' i' h1 h2).lt
  have hρo : ∀ c' i', c' < am_NC → i' < G.2 c' → am_newρ ρ c (G.2 c) H.size c' i' = ρ c' i' := fun c' i' h1 h2 => am_newρ_old hc (Or.inl ⟨h1, h2⟩)
  have hρn : am_newρ ρ c (G.2 c) H.size c (G.2 c) = H.size := by unfold am_newρ; rw [if_pos ⟨rfl, rfl⟩]
  refine ⟨fun c' i' h1 h2 => ?_, fun c1 i1 c2 i2 h1 h2 h3 h4 h5 => ?_, fun c' i' h1 h2 => ?_, fun k => ?_, fun k => ?_, by omega, fun q hlt => by rw [hq q (by omega)]; exact w7 q hlt, fun c' i' k c2 i2 h1 h2 h3 => ?_, fun c' i' h1 h2 h3 => ?_⟩
  · by_cases e : c' = c ∧ i' = G.2 c
    · obtain ⟨rfl, rfl⟩ := e
      rw [hρn]
      exact hat
    · have h3 := hcnt c' i' h2 e
      rw [hρo c' i' h1 h3, am_E_rho (ρ := ρ) (ρ' := am_newρ ρ c (G.2 c) H.size) (G := G) (G' := am_newG G c) rfl (fun k c2 i2 hr => hρo c2 i2 (w8 c' i' k c2 i2 h1 h3 hr).1 (w8 c' i' k c2 i2 h1 h3 hr).2)]
      exact (w1 c' i' h1 h3).kept (hq _ (hold c' i' h1 h3))
  · by_cases e1 : c1 = c ∧ i1 = G.2 c <;> by_cases e2 : c2 = c ∧ i2 = G.2 c
    · exact ⟨e1.1.trans e2.1.symm, e1.2.trans e2.2.symm⟩
    · obtain ⟨rfl, rfl⟩ := e1
      have := hcnt c2 i2 h4 e2
      rw [hρn, hρo c2 i2 h2 this] at h5
      have := hold c2 i2 h2 this
      omega
    · obtain ⟨rfl, rfl⟩ := e2
      have := hcnt c1 i1 h3 e1
      rw [hρn, hρo c1 i1 h1 this] at h5
      have := hold c1 i1 h1 this
      omega
    · rw [hρo c1 i1 h1 (hcnt c1 i1 h3 e1), hρo c2 i2 h2 (hcnt c2 i2 h4 e2)] at h5
      exact w2 c1 i1 c2 i2 h1 h2 (hcnt c1 i1 h3 e1) (hcnt c2 i2 h4 e2) h5
  · by_cases e : c' = c ∧ i' = G.2 c
    · obtain ⟨rfl, rfl⟩ := e
      rw [hρn]
      exact w6
    · rw [hρo c' i' h1 (hcnt c' i' h2 e)]
      exact w3 c' i' h1 (hcnt c' i' h2 e)
  · rw [am_newρ_old hc (Or.inr (by decide))]
    exact w4 k
  · rw [am_newρ_old hc (Or.inr (by decide))]
    exact w5 k
  · rw [am_ref_G2 (G := G) (G' := am_newG G c) rfl] at h3
    by_cases e : c' = c ∧ i' = G.2 c
    · obtain ⟨rfl, rfl⟩ := e
      rw [am_ref_zero h1 (w9 c' (G.2 c') h1 (Nat.le_refl _) hop) k] at h3
      cases h3
    · have := w8 c' i' k c2 i2 h1 (hcnt c' i' h2 e) h3
      exact ⟨this.1, Nat.lt_of_lt_of_le this.2 (am_newG_le c2)⟩
  · exact w9 c' i' h1 (Nat.le_trans (am_newG_le c') h2) h3
theorem am_val_zero {ρ : Nat → Nat → Nat} {I : II} {Lg : LJ} {R : RR} {G : GG} {c i k : Nat} (h13 : c < 13) (hk : k < (am_ck c).2.2.1) (h : am_zero c i I Lg R G) : am_val ρ I Lg R G c i k = defaultValue (am_ty c k) := by
  have hz := am_ref_zero (am_lt13 h13) h k
  obtain ⟨h1, h2, -, -⟩ := h
  have htag := am_tagOk_all c h13 k hk
  rcases hck : am_ck c with ⟨a, x, n, y, t⟩
  rw [hck] at hk
  have ha : am_ck c = (0, x, n, (y, t)) := by
    have : ∀ c, c < 13 → (am_ck c).1 = 0 := by decide +kernel
    have h9 := this c h13
    rw [hck] at h9
    rw [hck, show a = 0 from h9]
  obtain ⟨-, -, -, hs⟩ := am_chk0 ha (am_lt13 h13)
  have h9 := hs k hk
  unfold am_tagOk at htag
  unfold am_val
  rw [hz]
  rcases hsl : am_slot c k with ⟨a, v, t, b⟩
  rw [hsl] at h9 htag
  match a, h9, htag with
  | 0, h9, htag =>
    have e : am_ty c k = .int := by generalize am_ty c k = ty at htag; cases ty <;> first | rfl | cases htag
    rw [e]
    show Value.int (I v i 0) = _
    rw [h1 v 0 (by rw [show am_oI v = (c, k) from h9])]
    rfl
  | 1, h9, htag =>
    have e : am_ty c k = .boolean := by generalize am_ty c k = ty at htag; cases ty <;> first | rfl | cases htag
    rw [e]
    show Value.int (I v i 0) = _
    rw [h1 v 0 (by rw [show am_oI v = (c, k) from h9])]
    rfl
  | 2, h9, htag =>
    have e : am_ty c k = .long := by generalize am_ty c k = ty at htag; cases ty <;> first | rfl | cases htag
    rw [e]
    show Value.long (Lg v i 0) = _
    rw [h2 v 0 (by rw [show am_oL v = (c, k) from h9])]
    rfl
  | 3, h9, htag => generalize am_ty c k = ty at htag ⊢; cases ty <;> first | rfl | cases htag
  | 4, h9, htag => generalize am_ty c k = ty at htag ⊢; cases ty <;> first | rfl | cases htag
  | _ + 5, h9, _ => exact h9.elim
theorem am_atA {Γ : AMG} {ρ : Nat → Nat → Nat} {I : II} {Lg : LJ} {R : RR} {G : GG} {H : Heap} {c i a n x y t b : Nat} (hck : am_ck c = (a + 1, n, x, y, t)) (h : H[b]? = some (arrV (Γ.cy t) n (am_aV ρ I Lg R G c i))) : va_at Γ.D vwCl (b, am_E Γ ρ I Lg R G c i) H := by
  obtain ⟨w, h1, -, h3⟩ := am_E_arr (Γ := Γ) (ρ := ρ) (I := I) (Lg := Lg) (R := R) (G := G) (i := i) hck
  rw [h1]
  show H[b]? = some (vp_cell (Γ.cy t) w)
  rw [h, h3]
section AMR
variable {Γ : AMG} {M : MD} {Q : QQ} {d k n pc pc' pc2 : Nat} {L L' : LL} {st st' : List AV} {I I' : II} {Lg Lg' : LJ} {R R' : RR} {G G' : GG}
/-- a step that makes a cell -/
theorem am_J.mk {c N : Nat} (hc : c < am_NC) (hop : G.1 1000 c 0 = false) (hs : ∀ (ρ : Nat → Nat → Nat) (p : Program) (e : Env) (Rm : Room) (s : State) (m : MethodId) (args : Array Value) (below : List Frame) (meth : Method) (c0 : Code) (H : Heap) (locs : List Loc) (cells slots : Nat) (Z : State → Prop) (ls : Array Slot), am_Cx Γ M p s m args meth c0 → am_Wd Γ ρ I Lg R G H → am_zero c (G.2 c) I Lg R G → cells + 1 ≤ Rm.cells → slots + N ≤ Rm.slots →
      (∀ H1 : Heap, H1.size = H.size + 1 → (∀ q, q < H.size → H1[q]? = H[q]?) → va_at Γ.D vwCl (H.size, am_E Γ (am_newρ ρ c (G.2 c) H.size) I Lg R (am_newG G c) c (G.2 c)) H1 → W p Γ.l e Rm s m args below meth c0 H1 locs (cells + 1) (slots + N) Z (F0 m pc' ls (.ref H.size :: st'.map (am_con ρ)))) → W p Γ.l e Rm s m args below meth c0 H locs cells slots Z (F0 m pc ls (st.map (am_con ρ))))
    (hst : ∀ v ∈ st', v ∈ st) (h : am_zero c (G.2 c) I Lg R G → am_J Γ M Q d k n pc' L (vR c (G.2 c) :: st') I Lg R (am_newG G c)) : am_J Γ M Q d (k + 1) (n + N) pc L st I Lg R G := by
  intro ρ p e Rm s m args below meth c0 H locs cells slots Z C h1 h2 h3 h4 hW hl hoL hoS ret ls hL
  have hz := hW.2.2.2.2.2.2.2.2 c (G.2 c) hc (Nat.le_refl _) hop
  have hext : am_Ext ρ G (am_newρ ρ c (G.2 c) H.size) (am_newG G c) := am_new_ext hc
  refine hs ρ p e Rm s m args below meth c0 H locs cells slots Z ls C hW hz (by omega) (by omega) (fun H1 z1 o1 at1 => ?_)
  have hcon : ∀ v, am_ok G v → am_con (am_newρ ρ c (G.2 c) H.size) v = am_con ρ v := by
    intro v hv
    match v, hv with
    | .inl _, _ => rfl
    | .inr (.inl _), _ => rfl
    | .inr (.inr none), _ => rfl
    | .inr (.inr (some (a, b))), hv => exact congrArg Value.ref (hext.2 a b hv)
  have hokx : ∀ v, am_ok G v → am_ok (am_newG G c) v := by
    intro v hv
    match v, hv with
    | .inl _, _ => trivial
    | .inr (.inl _), _ => trivial
    | .inr (.inr none), _ => trivial
    | .inr (.inr (some (a, b))), hv => exact am_okR.ext hext hv
  have key := h hz (am_newρ ρ c (G.2 c) H.size) p e Rm s m args below meth c0 H1 locs (cells + 1) (slots + N) Z C h1 h2 (by omega) (by omega) (hW.new hc hop z1 o1 at1) hl ⟨hoL.1, fun v hv => hokx v (hoL.2 v hv)⟩ (am_okS.cons (v := vR c (G.2 c)) (Or.inl ⟨hc, by show _ < up1 G.2 c (G.2 c + 1) c; simp [up1]⟩) (fun v hv => hokx v (hoS v (hst v hv))))
    (fun ρ' r I2 Lg2 R2 G2 H2 locs2 cells2 slots2 pc2 ls2 a1 a2 a3 a4 a5 a6 a7 a8 => ret ρ' r I2 Lg2 R2 G2 H2 locs2 cells2 slots2 pc2 ls2 a1 (hext.tr a2) a3 a4 (by omega) (by omega) a7 a8) ls ⟨hL.1, hL.2.1, fun j v hv => by rw [hcon v (hoL.at hv)]; exact hL.2.2 j v hv⟩
  have e1 : (vR c (G.2 c) :: st').map (am_con (am_newρ ρ c (G.2 c) H.size)) = .ref H.size :: st'.map (am_con ρ) := by
    rw [List.map_cons]
    congr 1
    · show Value.ref (am_newρ ρ c (G.2 c) H.size c (G.2 c)) = _
      unfold am_newρ
      rw [if_pos ⟨rfl, rfl⟩]
    · exact List.map_congr_left (fun v hv => hcon v (hoS v (hst v hv)))
  rw [e1] at key
  exact key
theorem ar_new {c N idx : Nat} {r : vw_C} (hop : G.1 1000 c 0 = false) (hr : vwCl[c]? = some r) (hN : r.2.2 = N) (hcl : Cond.classLink M.1 idx r.1 ∈ am_BIG) (hinst : Cond.instantiable r.1 r.2.2 ∈ am_BIG) (hini : Cond.initialized r.1 ∈ am_BIG) (hd : decode M.2.2.1 pc = .ok (.new idx, 3)) (h : am_zero c (G.2 c) I Lg R G → am_J Γ M Q d k n (pc + 3) L (vR c (G.2 c) :: st) I Lg R (am_newG G c)) : am_J Γ M Q d (k + 1) (n + N) pc L st I Lg R G := by
  subst hN
  obtain ⟨hck, h13⟩ := am_ckN c r hr
  refine am_J.mk (am_lt13 h13) hop (fun ρ p e Rm s m args below meth c0 H locs cells slots Z ls C hW hz hc1 hc2 kk => ?_) (fun _ h => h) h
  have hts := C.2.2.2.2.2.2.1
  have hKn := C.2.2.2.2.2.2.2.2.1.1.1 c _ hr
  refine W.newcK C.1 C.2.1 C.2.2.2.2.2.1 (hts _ hcl) (hts _ hinst) (hts _ hini) rfl hd hc1 hc2 hKn.2.1 rfl fun H1 kC hkC e1 z1 o1 => kk H1 z1 o1 ?_
  obtain ⟨hty, -⟩ := am_fld c r hr
  have hb := (u_born (am_ty c) hts (am_wsin c r hr) hKn hkC e1 hty)
  have hz' : am_zero c (G.2 c) I Lg R (am_newG G c) := hz
  have e9 : am_E Γ (am_newρ ρ c (G.2 c) H.size) I Lg R (am_newG G c) c (G.2 c) = .inr (c, (List.range r.2.2).map (am_val (am_newρ ρ c (G.2 c) H.size) I Lg R (am_newG G c) c (G.2 c))) := by unfold am_E; rw [hck]; rfl
  rw [e9]
  refine ⟨_, hr, hb.to (fun j hj => ?_)⟩
  have hv := am_val_zero (ρ := am_newρ ρ c (G.2 c) H.size) (k := j) h13 (by rw [hck]; exact hj) hz'
  rw [← hv]
  unfold vp_V
  rw [List.getD_eq_getElem?_getD, List.getElem?_map, List.getElem?_range hj]
  rfl
def am_dv : Nat → Value
  | 0 => .int 0
  | 1 => .int 0
  | 2 => .long 0
  | _ => .null
theorem am_aV_zero {ρ : Nat → Nat → Nat} {a N x y t c i : Nat} (hck : am_ck c = (a + 1, N, x, y, t)) (ha : a < 5) (h : am_zero c i I Lg R G) : am_aV ρ I Lg R G c i = fun _ => am_dv a := by
  have hc := am_ckNC hck ha
  funext j
  have hz := am_ref_zero hc h j
  obtain ⟨h1, h2, -, -⟩ := h
  have h9 := am_chkT_ok c hc
  unfold am_chkT at h9
  unfold am_aV
  rw [hck] at h9 ⊢
  match a, ha, h9 with
  | 0, _, h9 =>
    simp only [Bool.and_eq_true, beq_iff_eq] at h9
    show Value.int (I x i j) = .int 0
    rw [h1 x j (by rw [h9.1])]
  | 1, _, h9 =>
    simp only [Bool.and_eq_true, beq_iff_eq] at h9
    show Value.int (I x i j) = .int 0
    rw [h1 x j (by rw [h9.1])]
  | 2, _, h9 =>
    simp only [Bool.and_eq_true, beq_iff_eq] at h9
    show Value.long (Lg x i j) = .long 0
    rw [h2 x j (by rw [h9.1])]
  | 3, _, _ => simp only [hz]; rfl
  | 4, _, _ => simp only [hz]; rfl
  | q + 5, h5, _ => omega
def am_atype : Nat → ArrayType
  | 0 => .int
  | 1 => .boolean
  | _ => .long
theorem am_aVG {ρ : Nat → Nat → Nat} {c i : Nat} (hG : G'.1 = G.1) : am_aV ρ I Lg R G' c i = am_aV ρ I Lg R G c i := by
  funext j
  unfold am_aV
  rw [am_ref_G2 hG]
theorem ar_newa {c a N x y t : Nat} (hop : G.1 1000 c 0 = false) (hck : am_ck c = (a + 1, N, x, y, t)) (ha : a < 3) (hN : N ≤ 1000000) (harr : Cond.arrayClass (newarray.typeOf (am_atype a)) ∈ am_BIG) (hd : decode M.2.2.1 pc = .ok (.newarray (am_atype a), 2)) (h : am_zero c (G.2 c) I Lg R G → am_J Γ M Q d k n (pc + 2) L (vR c (G.2 c) :: st) I Lg R (am_newG G c)) : am_J Γ M Q d (k + 1) (n + N) pc L (vI (zI N) :: st) I Lg R G := by
  have hc := am_ckNC hck (by omega)
  refine am_J.mk hc hop (fun ρ p e Rm s m args below meth c0 H locs cells slots Z ls C hW hz hc1 hc2 kk => ?_) (fun _ h => List.mem_cons_of_mem _ h) h
  have hzN : zI N = nI N := Int32.ofInt_eq_ofNat
  have hn0 : ¬ zI N < 0 := by rw [hzN]; exact nI_pos (by omega)
  have hnN : (zI N).toNatClampNeg = N := by rw [hzN]; exact nI_clamp (by omega)
  refine va_newaK C.1 C.2.1 (C.2.2.2.2.2.2.1 _ harr) rfl hd rfl hn0 hnN (by match a, ha with | 0, _ => show N * 4 ≤ _; omega | 1, _ => show N * 1 ≤ _; omega | 2, _ => show N * 8 ≤ _; omega) hc1 hc2 rfl fun H1 cA e1 z1 o1 hAr hnm => kk H1 z1 o1 (am_atA (a := a) hck ?_)
  rw [am_aV_zero hck (by omega) (show am_zero c (G.2 c) I Lg R (am_newG G c) from hz), e1]
  have ht := am_chkT_ok c hc
  unfold am_chkT at ht
  rw [hck] at ht
  match a, ha, ht with
  | 0, _, ht =>
    simp only [Bool.and_eq_true, beq_iff_eq] at ht
    rw [ht.2]
    have h2 : s.vm.findClass ("[" ++ (FieldType.int).toString) = some (Γ.cy 0) := (C.2.2.2.2.2.2.2.2.1.1.2 0 _ rfl).2
    rw [Option.some.inj (hnm.symm.trans h2)]
    rfl
  | 1, _, ht =>
    simp only [Bool.and_eq_true, beq_iff_eq] at ht
    rw [ht.2]
    have h2 : s.vm.findClass ("[" ++ (FieldType.boolean).toString) = some (Γ.cy 1) := (C.2.2.2.2.2.2.2.2.1.1.2 1 _ rfl).2
    rw [Option.some.inj (hnm.symm.trans h2)]
    rfl
  | 2, _, ht =>
    simp only [Bool.and_eq_true, beq_iff_eq] at ht
    rw [ht.2]
    have h2 : s.vm.findClass ("[" ++ (FieldType.long).toString) = some (Γ.cy 2) := (C.2.2.2.2.2.2.2.2.1.1.2 2 _ rfl).2
    rw [Option.some.inj (hnm.symm.trans h2)]
    rfl
end AMR
