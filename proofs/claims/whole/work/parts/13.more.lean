/-! More rules: returns, Math, Object's constructor, references compared, switches, texts, the script, references stored in rows. -/
def am_max (x y : Int32) : Int32 := if x < y then y else x
def am_min (x y : Int32) : Int32 := if y < x then y else x
def am_abs (x : Int32) : Int32 := if 0 ≤ x then x else 0 - x
section AMR
variable {Γ : AMG} {M : MD} {Q : QQ} {d k n pc pc' pc2 : Nat} {L L' : LL} {st st' : List AV} {I I' : II} {Lg Lg' : LJ} {R R' : RR} {G G' : GG}
theorem ar_ret (hd : decode M.2.2.1 pc = .ok (.return_, 1)) (hr : M.2.2.2.2.1 = none) (h : Q none I Lg R G) : am_J Γ M Q d k n pc L [] I Lg R G :=
  fun ρ p e Rm s m args below meth c H locs cells slots Z C h1 h2 h3 h4 hW hl hoL hoS ret ls hL => ret ρ none I Lg R G H locs cells slots pc ls hW am_Ext.rf (fun v hv => by cases hv) hl (by omega) (by omega) h (Or.inl ⟨hd, hr⟩)
theorem ar_iret {x : Int32} (hd : decode M.2.2.1 pc = .ok (.ireturn, 1)) (hr : M.2.2.2.2.1 = some .int ∨ M.2.2.2.2.1 = some .boolean ∧ (x = zI 0 ∨ x = zI 1)) (h : Q (some (vI x)) I Lg R G) : am_J Γ M Q d k n pc L [vI x] I Lg R G :=
  fun ρ p e Rm s m args below meth c H locs cells slots Z C h1 h2 h3 h4 hW hl hoL hoS ret ls hL => ret ρ (some (vI x)) I Lg R G H locs cells slots pc ls hW am_Ext.rf (fun v hv => by cases hv; trivial) hl (by omega) (by omega) h ⟨hd, hr⟩
theorem ar_lret {x : Int64} (hd : decode M.2.2.1 pc = .ok (.lreturn, 1)) (hr : M.2.2.2.2.1 = some .long) (h : Q (some (vL x)) I Lg R G) : am_J Γ M Q d k n pc L [vL x] I Lg R G :=
  fun ρ p e Rm s m args below meth c H locs cells slots Z C h1 h2 h3 h4 hW hl hoL hoS ret ls hL => ret ρ (some (vL x)) I Lg R G H locs cells slots pc ls hW am_Ext.rf (fun v hv => by cases hv; trivial) hl (by omega) (by omega) h ⟨hd, hr⟩
theorem ar_aret {o : Option (Nat × Nat)} (hd : decode M.2.2.1 pc = .ok (.areturn, 1)) (hr : ∃ q, M.2.2.2.2.1 = some (.object q)) (h : Q (some (.inr (.inr o))) I Lg R G) : am_J Γ M Q d k n pc L [.inr (.inr o)] I Lg R G :=
  fun ρ p e Rm s m args below meth c H locs cells slots Z C h1 h2 h3 h4 hW hl hoL hoS ret ls hL => ret ρ (some (.inr (.inr o))) I Lg R G H locs cells slots pc ls hW am_Ext.rf (fun v hv => by cases hv; exact hoS _ List.mem_cons_self) hl (by omega) (by omega) h ⟨hd, hr⟩
/-- a step for which there must be room for a frame -/
theorem am_J.fr (hs : ∀ (ρ : Nat → Nat → Nat) (p : Program) (e : Env) (Rm : Room) (s : State) (m : MethodId) (args : Array Value) (below : List Frame) (meth : Method) (c : Code) (H : Heap) (locs : List Loc) (cells slots : Nat) (Z : State → Prop) (ls : Array Slot), am_Cx Γ M p s m args meth c → am_Wd Γ ρ I Lg R G H → am_okS G st → d + 1 ≤ Rm.frames → am_LOC * (d + 1) ≤ Rm.locals → cells ≤ Rm.cells → slots ≤ Rm.slots → ls.size = c.maxLocals →
      (am_okS G st' → W p Γ.l e Rm s m args below meth c H locs cells slots Z (F0 m pc' ls (st'.map (am_con ρ)))) → W p Γ.l e Rm s m args below meth c H locs cells slots Z (F0 m pc ls (st.map (am_con ρ))))
    (h : am_J Γ M Q (d + 1) k n pc' L st' I Lg R G) : am_J Γ M Q (d + 1) k n pc L st I Lg R G := by
  intro ρ p e Rm s m args below meth c H locs cells slots Z C h1 h2 h3 h4 hW hl hoL hoS ret ls hL
  exact hs ρ p e Rm s m args below meth c H locs cells slots Z ls C hW hoS h1 h2 (by omega) (by omega) (hL.1.trans (hoL.1.trans C.2.2.1.symm)) (fun hoS' => h ρ p e Rm s m args below meth c H locs cells slots Z C h1 h2 h3 h4 hW hl hoL hoS' ret ls hL)
theorem ar_mmax {x y : Int32} {idx : Nat} (h1 : Cond.methodLink M.1 idx Lib.Math.max.name ∈ am_BIG) (h2 : Cond.static Lib.Math.max.name ∈ am_BIG) (h3 : Cond.initialized "java/lang/Math" ∈ am_BIG) (h4 : Cond.code Lib.Math.max.name Lib.Math.max.code 2 (some .int) ∈ am_BIG) (hcat : am_cats st ≤ 8) (hd : decode M.2.2.1 pc = .ok (.invokestatic idx, 3)) (h : am_J Γ M Q (d + 1) k n (pc + 3) L (vI (am_max x y) :: st) I Lg R G) : am_J Γ M Q (d + 1) k n pc L (vI y :: vI x :: st) I Lg R G :=
  am_J.fr (fun ρ p e Rm s m args below meth c0 H locs cells slots Z ls C hW hoS g1 g2 g3 g4 g5 kk => by
    have hts := C.2.2.2.2.2.2.1
    exact va_mmax C.1 C.2.1 g5.symm C.2.2.2.2.2.1 (hts _ h1) (hts _ h2) (hts _ h3) (hts _ h4) (by omega) (by rw [am_cats_con]; have e9 : am_LOC * (d + 1) = am_LOC * d + 48 := rfl; omega) g3 g4 hd (kk hoS.tl.tl.i)) h
theorem ar_mmin {x y : Int32} {idx : Nat} (h1 : Cond.methodLink M.1 idx Lib.Math.min.name ∈ am_BIG) (h2 : Cond.static Lib.Math.min.name ∈ am_BIG) (h3 : Cond.initialized "java/lang/Math" ∈ am_BIG) (h4 : Cond.code Lib.Math.min.name Lib.Math.min.code 2 (some .int) ∈ am_BIG) (hcat : am_cats st ≤ 8) (hd : decode M.2.2.1 pc = .ok (.invokestatic idx, 3)) (h : am_J Γ M Q (d + 1) k n (pc + 3) L (vI (am_min x y) :: st) I Lg R G) : am_J Γ M Q (d + 1) k n pc L (vI y :: vI x :: st) I Lg R G :=
  am_J.fr (fun ρ p e Rm s m args below meth c0 H locs cells slots Z ls C hW hoS g1 g2 g3 g4 g5 kk => by
    have hts := C.2.2.2.2.2.2.1
    exact va_mmin C.1 C.2.1 g5.symm C.2.2.2.2.2.1 (hts _ h1) (hts _ h2) (hts _ h3) (hts _ h4) (by omega) (by rw [am_cats_con]; have e9 : am_LOC * (d + 1) = am_LOC * d + 48 := rfl; omega) g3 g4 hd (kk hoS.tl.tl.i)) h
theorem ar_mabs {x : Int32} {idx : Nat} (h1 : Cond.methodLink M.1 idx Lib.Math.abs.name ∈ am_BIG) (h2 : Cond.static Lib.Math.abs.name ∈ am_BIG) (h3 : Cond.initialized "java/lang/Math" ∈ am_BIG) (h4 : Cond.code Lib.Math.abs.name Lib.Math.abs.code 1 (some .int) ∈ am_BIG) (hcat : am_cats st ≤ 8) (hd : decode M.2.2.1 pc = .ok (.invokestatic idx, 3)) (h : am_J Γ M Q (d + 1) k n (pc + 3) L (vI (am_abs x) :: st) I Lg R G) : am_J Γ M Q (d + 1) k n pc L (vI x :: st) I Lg R G :=
  am_J.fr (fun ρ p e Rm s m args below meth c0 H locs cells slots Z ls C hW hoS g1 g2 g3 g4 g5 kk => by
    have hts := C.2.2.2.2.2.2.1
    exact va_mabs C.1 C.2.1 g5.symm C.2.2.2.2.2.1 (hts _ h1) (hts _ h2) (hts _ h3) (hts _ h4) (by omega) (by rw [am_cats_con]; have e9 : am_LOC * (d + 1) = am_LOC * d + 48 := rfl; omega) g3 g4 hd (kk hoS.tl.i)) h
theorem ar_obj {a b idx : Nat} (h1 : Cond.methodLink M.1 idx Lib.objectInit ∈ am_BIG) (h2 : Cond.instanceMethod Lib.objectInit ∈ am_BIG) (h4 : Cond.code Lib.objectInit ⟨#[0xb1]⟩ 1 none ∈ am_BIG) (hcat : am_cats st ≤ 8) (hd : decode M.2.2.1 pc = .ok (.invokespecial idx, 3)) (h : am_J Γ M Q (d + 1) k n (pc + 3) L st I Lg R G) : am_J Γ M Q (d + 1) k n pc L (vR a b :: st) I Lg R G :=
  am_J.fr (fun ρ p e Rm s m args below meth c0 H locs cells slots Z ls C hW hoS g1 g2 g3 g4 g5 kk => by
    have hts := C.2.2.2.2.2.2.1
    have e8 := am_cats_con ρ st
    exact W.objInit C.1 C.2.1 C.2.2.2.2.2.1 (hts _ h1) (hts _ h2) (hts _ h4) rfl g5 rfl hd (by omega) (by have e9 : am_LOC * (d + 1) = am_LOC * d + 48 := rfl; have h0 : 2 * (F0 m pc ls ((vR a b :: st).map (am_con ρ))).monitorRoom + ((st.map (am_con ρ)).map fun v => v.category).sum ≤ 8 := lv_room (by rw [e8]; exact hcat); omega) (kk hoS.tl)) h
theorem am_rf_con (ρ : Nat → Nat → Nat) (o : Option (Nat × Nat)) : am_con ρ (.inr (.inr o)) = va_rf (o.map (fun p => ρ p.1 p.2)) := by
  obtain _ | ⟨a, b⟩ := o <;> rfl
/-- two references to cells that are there: the same address only if the same cell -/
theorem am_ref_eq {ρ : Nat → Nat → Nat} {H : Heap} (hW : am_Wd Γ ρ I Lg R G H) {c i c2 i2 : Nat} (hc : c < am_NC) (hc2 : c2 < am_NC) (h1 : am_okR G c i) (h2 : am_okR G c2 i2) : some (ρ c i) = some (ρ c2 i2) ↔ c = c2 ∧ i = i2 :=
  ⟨fun h => hW.2.1 c i c2 i2 hc hc2 (h1.lt hc) (h2.lt hc2) (Option.some.inj h), fun h => by rw [h.1, h.2]⟩
theorem ar_acne {c i c2 i2 : Nat} {off : Int} {tgt : Nat} (hc : c < am_NC) (hc2 : c2 < am_NC) (hd : decode M.2.2.1 pc = .ok (.if_acmp .ne off, 3)) (ht : (pc : Int) + off = (tgt : Int)) (h1 : ¬ (c = c2 ∧ i = i2) → am_J Γ M Q d k n tgt L st I Lg R G) (h2 : c = c2 ∧ i = i2 → am_J Γ M Q d k n (pc + 3) L st I Lg R G) : am_J Γ M Q d k n pc L (vR c2 i2 :: vR c i :: st) I Lg R G := by
  intro ρ p e Rm s m args below meth c0 H locs cells slots Z C g1 g2 g3 g4 hW hl hoL hoS ret ls hL
  have he := am_ref_eq hW hc hc2 hoS.tl.hd hoS.hd
  exact lv_acmp_ne (rx := some (ρ c i)) (ry := some (ρ c2 i2)) C.1 C.2.1 hd ht (fun q => h1 (fun z => q (he.mpr z)) ρ p e Rm s m args below meth c0 H locs cells slots Z C g1 g2 g3 g4 hW hl hoL hoS.tl.tl ret ls hL) (fun q => h2 (he.mp q) ρ p e Rm s m args below meth c0 H locs cells slots Z C g1 g2 g3 g4 hW hl hoL hoS.tl.tl ret ls hL)
theorem ar_aceq {c i c2 i2 : Nat} {off : Int} {tgt : Nat} (hc : c < am_NC) (hc2 : c2 < am_NC) (hd : decode M.2.2.1 pc = .ok (.if_acmp .eq off, 3)) (ht : (pc : Int) + off = (tgt : Int)) (h1 : c = c2 ∧ i = i2 → am_J Γ M Q d k n tgt L st I Lg R G) (h2 : ¬ (c = c2 ∧ i = i2) → am_J Γ M Q d k n (pc + 3) L st I Lg R G) : am_J Γ M Q d k n pc L (vR c2 i2 :: vR c i :: st) I Lg R G := by
  intro ρ p e Rm s m args below meth c0 H locs cells slots Z C g1 g2 g3 g4 hW hl hoL hoS ret ls hL
  have he := am_ref_eq hW hc hc2 hoS.tl.hd hoS.hd
  exact lv_acmp_eq (rx := some (ρ c i)) (ry := some (ρ c2 i2)) C.1 C.2.1 hd ht (fun q => h1 (he.mp q) ρ p e Rm s m args below meth c0 H locs cells slots Z C g1 g2 g3 g4 hW hl hoL hoS.tl.tl ret ls hL) (fun q => h2 (fun z => q (he.mpr z)) ρ p e Rm s m args below meth c0 H locs cells slots Z C g1 g2 g3 g4 hW hl hoL hoS.tl.tl ret ls hL)
theorem ar_tsIn {dflt lo hi : Int} {offs : Array Int} {len : Nat} {x : Int32} {off : Int} {tgt : Nat} (hd : decode M.2.2.1 pc = .ok (.tableswitch dflt lo hi offs, len)) (h1 : ¬ x.toInt < lo) (h2 : ¬ hi < x.toInt) (ho : offs[(x.toInt - lo).toNat]? = some off) (ht : (pc : Int) + off = (tgt : Int)) (h : am_J Γ M Q d k n tgt L st I Lg R G) : am_J Γ M Q d k n pc L (vI x :: st) I Lg R G :=
  am_J.step (fun ρ p e Rm s m args below meth c H locs cells slots Z ls C hl kk => lv_tableIn C.1 C.2.1 hd h1 h2 ho ht (kk ls hl)) (fun a b => ⟨a, b.tl⟩) h
theorem ar_tsOut {dflt lo hi : Int} {offs : Array Int} {len : Nat} {x : Int32} {tgt : Nat} (hd : decode M.2.2.1 pc = .ok (.tableswitch dflt lo hi offs, len)) (h1 : x.toInt < lo ∨ hi < x.toInt) (ht : (pc : Int) + dflt = (tgt : Int)) (h : am_J Γ M Q d k n tgt L st I Lg R G) : am_J Γ M Q d k n pc L (vI x :: st) I Lg R G :=
  am_J.step (fun ρ p e Rm s m args below meth c H locs cells slots Z ls C hl kk => lv_tableOut C.1 C.2.1 hd h1 ht (kk ls hl)) (fun a b => ⟨a, b.tl⟩) h
theorem ar_lsw {dflt : Int} {ps : Array (Int × Int)} {len : Nat} {x : Int32} {off : Int} {tgt : Nat} (hd : decode M.2.2.1 pc = .ok (.lookupswitch dflt ps, len)) (hp : (ps.toList.zip (ps.toList.drop 1)).all (fun (a, next) => a.1 < next.1) = true) (ho : Op.lookupswitch.offset ps.toList dflt x.toInt = off) (ht : (pc : Int) + off = (tgt : Int)) (h : am_J Γ M Q d k n tgt L st I Lg R G) : am_J Γ M Q d k n pc L (vI x :: st) I Lg R G :=
  am_J.step (fun ρ p e Rm s m args below meth c H locs cells slots Z ls C hl kk => lv_lookup C.1 C.2.1 hd hp ho ht (kk ls hl)) (fun a b => ⟨a, b.tl⟩) h
theorem ar_ldcS {idx q : Nat} {tx : String} (hR : ∀ U, Γ.KX U → vk_R M.1 idx tx (Γ.SA q) U) (hd : decode M.2.2.1 pc = .ok (.ldc idx, 2)) (h : am_J Γ M Q d k n (pc + 2) L (vR am_cStr q :: st) I Lg R G) : am_J Γ M Q d k n pc L st I Lg R G :=
  am_J.rd (fun ρ p e Rm s m args below meth c H locs cells slots Z ls C hW hoS kk => by
    refine va_ldcS (q := Γ.SA q) C.1 C.2.1 C.2.2.2.2.2.1 (hR s C.2.2.2.2.2.2.2.2.1.2) hd ?_
    have := kk (am_okS.cons (v := vR am_cStr q) (Or.inr (by decide)) hoS)
    rw [List.map_cons, show am_con ρ (vR am_cStr q) = .ref (Γ.SA q) from congrArg Value.ref (hW.2.2.2.1 q)] at this
    exact this) h
/-- the script is read -/
def am_scr (Γ : AMG) : Prop := ∀ U, Γ.KX U → va_X Γ.scr.1 Γ.scr.2.1 Γ.scr.2.2 U Γ.HH
theorem am_scr_at {ρ : Nat → Nat → Nat} {s : State} {H : Heap} (hs : am_scr Γ) (hK : Γ.KX s) (hW : am_Wd Γ ρ I Lg R G H) : va_X Γ.scr.1 Γ.scr.2.1 Γ.scr.2.2 s H := by
  obtain ⟨cell, h1, h2⟩ := hs s hK
  exact ⟨cell, by rw [hW.2.2.2.2.2.2.1 _ (Array.getElem?_eq_some_iff.mp h1).1]; exact h1, h2⟩
theorem ar_scrL {q : Nat} (hs : am_scr Γ) (hd : decode M.2.2.1 pc = .ok (.arraylength, 1)) (h : am_J Γ M Q d k n (pc + 1) L (vI (zI Γ.scr.2.1) :: st) I Lg R G) : am_J Γ M Q d k n pc L (vR am_cScr q :: st) I Lg R G :=
  am_J.rd (fun ρ p e Rm s m args below meth c H locs cells slots Z ls C hW hoS kk => by
    obtain ⟨cell, h1, h2, h3, h4, h5⟩ := am_scr_at hs C.2.2.2.2.2.2.2.2.1.2 hW
    have h9 : H[ρ am_cScr q]? = some cell := by rw [hW.2.2.2.2.1 q]; exact h1
    exact W.alen (n := zI Γ.scr.2.1) C.1 C.2.1 h9 h2 (by rw [h4]; exact (Int32.ofInt_eq_ofNat).symm) rfl rfl hd (kk hoS.tl.i)) h
theorem ar_scrI {q : Nat} {j : Int32} (hs : am_scr Γ) (h0 : 0 ≤ j.toInt) (h1 : j.toInt < Γ.scr.2.1) (hd : decode M.2.2.1 pc = .ok (.iaload, 1)) (h : am_J Γ M Q d k n (pc + 1) L (vI (Γ.scr.2.2 j.toInt.toNat) :: st) I Lg R G) : am_J Γ M Q d k n pc L (vI j :: vR am_cScr q :: st) I Lg R G :=
  am_J.rd (fun ρ p e Rm s m args below meth c H locs cells slots Z ls C hW hoS kk => by
    obtain ⟨cell, g1, g2, g3, g4, g5⟩ := am_scr_at hs C.2.2.2.2.2.2.2.2.1.2 hW
    have h9 : H[ρ am_cScr q]? = some cell := by rw [hW.2.2.2.2.1 q]; exact g1
    exact W.iald (v := .int (Γ.scr.2.2 j.toInt.toNat)) C.1 C.2.1 h9 g2 g3 (by rw [g4]; exact am_vin h0 h1) (g5 _ (am_vlt h0 h1)) rfl rfl hd (kk hoS.tl.tl.i)) h
theorem am_tyO {Γ : AMG} {t y : Nat} (h : y = 4 ∧ t = 7 ∨ (y = 5 ∧ t = 8 ∨ (y = 6 ∧ t = 0 ∨ y = 3 ∧ t = 1))) : ∃ r : vw_C, vwCl[t]? = some r ∧ (am_tys Γ)[y]? = some (Γ.cy y, .object r.1) := by
  rcases h with ⟨rfl, rfl⟩ | ⟨rfl, rfl⟩ | ⟨rfl, rfl⟩ | ⟨rfl, rfl⟩ <;> exact ⟨_, rfl, rfl⟩
theorem am_aast {ρ : Nat → Nat → Nat} {p : Program} {e : Env} {Rm : Room} {s : State} {m : MethodId} {args : Array Value} {below : List Frame} {meth : Method} {c0 : Code} {H : Heap} {locs : List Loc} {cells slots : Nat} {Z : State → Prop} {ls : Array Slot} {rest : List Value} (C : am_Cx Γ M p s m args meth c0) (hW : am_Wd Γ ρ I Lg R G H) {c i a N x y t b z : Nat} {j : Int32} (hck : am_ck c = (a + 1, N, x, z, y)) (ha : a < 5) (hi : i < G.2 c) (hty : y = 4 ∧ t = 7 ∨ (y = 5 ∧ t = 8 ∨ (y = 6 ∧ t = 0 ∨ y = 3 ∧ t = 1))) (hb : b < G.2 t) (h0 : 0 ≤ j.toInt) (h1 : j.toInt < N) (hd : decode M.2.2.1 pc = .ok (.aastore, 1))
    (kk : ∀ H1 : Heap, H1[ρ c i]? = some (arrV (Γ.cy y) N (updV (am_aV ρ I Lg R G c i) j.toInt.toNat (.ref (ρ t b)))) → H1.size = H.size → (∀ q, q ≠ ρ c i → H1[q]? = H[q]?) → W p Γ.l e Rm s m args below meth c0 H1 (locs ++ [⟨ρ c i, j.toInt.toNat⟩]) cells slots Z (F0 m (pc + 1) ls rest)) : W p Γ.l e Rm s m args below meth c0 H locs cells slots Z (F0 m pc ls (.ref (ρ t b) :: .int j :: .ref (ρ c i) :: rest)) := by
  obtain ⟨r, hr, hy⟩ := am_tyO (Γ := Γ) hty
  have hK := C.2.2.2.2.2.2.2.2.1.1
  have hlt := am_vlt h0 h1
  obtain ⟨r', hr', cellV, g1, g2, g3, -⟩ := hW.obj hr hb
  have hcls := (hK.1 t r hr).2
  obtain ⟨kA, comp, k1, k2, k3, -⟩ := (hK.2 y _ hy).2
  have hcomp : comp = Γ.D.1 t := Option.some.inj (k3.symm.trans hcls.1)
  subst hcomp
  obtain ⟨kC, hkC, -⟩ := hcls.2
  refine W.aast C.1 C.2.1 (hW.arr hck ha hi) (fun q h => by cases h) (fun h => by cases h) k1 k2 rfl hkC ⟨fun q => am_vin h0 h1 (Or.inl q), by rw [arrV_size]; exact hlt⟩ g1 (fun q h => by rw [g3] at h; cases h) (by rw [g2]; exact hkC) (by rw [g2]; exact va_assign hcls) rfl rfl hd fun H1 e1 z1 oq => kk H1 (by rw [e1, arrV_store]; rfl) z1 oq
theorem ar_aastS {c i N t b y b2 : Nat} {j : Int32} (hck : am_ck c = (4, N, t, b, y)) (hy7 : y < 7) (h0 : 0 ≤ j.toInt) (h1 : j.toInt < N) (hb2 : b2 = am_aidx b j.toInt.toNat) (hd : decode M.2.2.1 pc = .ok (.aastore, 1)) (h : am_J Γ M Q d k n (pc + 1) L st I Lg R (up3 G.1 c i j.toInt.toNat true, G.2)) : am_J Γ M Q d k n pc L (vR t b2 :: vI j :: vR c i :: st) I Lg R G := by
  refine am_J.wr (G' := (up3 G.1 c i j.toInt.toNat true, G.2)) (fun ρ p e Rm s m args below meth c0 H locs cells slots Z ls C hW hoS hl kk => ?_) rfl (fun b => b.tl.tl.tl) h
  have hc : c < am_NC := am_ckNC (a := 3) hck (by decide)
  have hi := hoS.tl.tl.hd.lt hc
  have ht := am_chkT_ok c hc
  unfold am_chkT at ht
  rw [hck] at ht
  simp only [Bool.and_eq_true, Bool.or_eq_true, beq_iff_eq] at ht
  have htN : t < am_NC := Nat.blt_eq.mp ht.1
  have hb3 := hoS.hd.lt htN
  have eref : am_ref R (up3 G.1 c i j.toInt.toNat true, G.2) c i j.toInt.toNat = some (t, b2) := by
    have hbl : Nat.blt j.toInt.toNat N = true := Nat.blt_eq.mpr (am_vlt h0 h1)
    unfold am_ref; rw [hck, hb2]; simp only [hbl, Bool.true_and]; simp [up3]
  have eoth : ∀ q, ¬ q = j.toInt.toNat → am_ref R (up3 G.1 c i j.toInt.toNat true, G.2) c i q = am_ref R G c i q := by
    intro q hq
    have : up3 G.1 c i j.toInt.toNat true c i q = G.1 c i q := by simp only [up3]; rw [if_neg]; exact fun z => hq z.2.2
    unfold am_ref
    simp only [this]
  refine am_aast (a := 3) (t := t) C hW hck (by decide) hi (by omega) hb3 h0 h1 hd fun H1 e1 z1 oq => kk H1 _ (hW.upd hc hi z1 oq (am_at_arr (a := 3) hck ?_) (fun _ _ _ => rfl) (fun _ _ _ => rfl) (fun _ _ _ => rfl) am_up3_neG rfl (fun k2 c2 i2 _ hk2 => ?_)) (am_kept (H := H) (H1 := H1) hl (hW.2.2.1 c i hc hi))
  · rw [e1]
    congr 2
    funext q
    unfold updV am_aV
    rw [hck]
    by_cases hq : q = j.toInt.toNat
    · rw [if_pos hq, hq]
      show _ = va_rf ((am_ref R (up3 G.1 c i j.toInt.toNat true, G.2) c i j.toInt.toNat).map (fun p => ρ p.1 p.2))
      rw [eref]; rfl
    · rw [if_neg hq]
      show va_rf ((am_ref R G c i q).map (fun p => ρ p.1 p.2)) = va_rf ((am_ref R (up3 G.1 c i j.toInt.toNat true, G.2) c i q).map (fun p => ρ p.1 p.2))
      rw [eoth q hq]
  · by_cases ek : k2 = j.toInt.toNat
    · rw [ek, eref] at hk2
      cases hk2
      exact ⟨htN, hb3⟩
    · rw [eoth k2 ek] at hk2
      exact hW.2.2.2.2.2.2.2.1 c i k2 c2 i2 hc hi hk2
theorem ar_aastD {c i N v t y b2 : Nat} {j : Int32} (hck : am_ck c = (5, N, v, t, y)) (h0 : 0 ≤ j.toInt) (h1 : j.toInt < N) (hd : decode M.2.2.1 pc = .ok (.aastore, 1)) (h : am_J Γ M Q d k n (pc + 1) L st I Lg (up3 R v i j.toInt.toNat (some b2)) G) : am_J Γ M Q d k n pc L (vR t b2 :: vI j :: vR c i :: st) I Lg R G := by
  refine am_J.wr (fun ρ p e Rm s m args below meth c0 H locs cells slots Z ls C hW hoS hl kk => ?_) rfl (fun b => b.tl.tl.tl) h
  have hc : c < am_NC := am_ckNC (a := 4) hck (by decide)
  have hi := hoS.tl.tl.hd.lt hc
  have ht := am_chkT_ok c hc
  unfold am_chkT at ht
  rw [hck] at ht
  simp only [Bool.and_eq_true, beq_iff_eq] at ht
  obtain ⟨hv, rfl, rfl⟩ := ht
  have hb3 := hoS.hd.lt (show 1 < am_NC by decide)
  have eref : ∀ q, am_ref (up3 R v i j.toInt.toNat (some b2)) G c i q = if q = j.toInt.toNat then some (1, b2) else am_ref R G c i q := by
    intro q
    unfold am_ref; rw [hck]
    by_cases hq : q = j.toInt.toNat
    · simp [up3, hq]
    · have e8 : up3 R v i j.toInt.toNat (some b2) v i q = R v i q := by simp only [up3]; rw [if_neg]; exact fun z => hq z.2.2
      rw [if_neg hq]
      show (up3 R v i j.toInt.toNat (some b2) v i q).map _ = _
      rw [e8]
      rfl
  refine am_aast (a := 4) (t := 1) C hW hck (by decide) hi (by omega) hb3 h0 h1 hd fun H1 e1 z1 oq => kk H1 _ (hW.upd hc hi z1 oq (am_at_arr (a := 4) hck ?_) (fun _ _ _ => rfl) (fun _ _ _ => rfl) (am_up3_ne hv) (fun _ _ _ => rfl) rfl (fun k2 c2 i2 _ hk2 => ?_)) (am_kept (H := H) (H1 := H1) hl (hW.2.2.1 c i hc hi))
  · rw [e1]
    congr 2
    funext q
    unfold updV am_aV
    rw [hck]
    show _ = va_rf ((am_ref (up3 R v i j.toInt.toNat (some b2)) G c i q).map (fun p => ρ p.1 p.2))
    rw [eref q]
    by_cases hq : q = j.toInt.toNat
    · rw [if_pos hq, if_pos hq]; rfl
    · rw [if_neg hq, if_neg hq]; rfl
  · rw [eref k2] at hk2
    split at hk2
    · cases hk2
      exact ⟨by decide, hb3⟩
    · exact hW.2.2.2.2.2.2.2.1 c i k2 c2 i2 hc hi hk2
end AMR
