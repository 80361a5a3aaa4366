/-! Contracts of methods that throw, and of those that catch. -/
section AMX
variable {Γ : AMG} {M M2 : MD} {Q : QQ} {d k n pc : Nat} {L : LL} {st : List AV} {I : II} {Lg : LJ} {R : RR} {G : GG}
theorem ar_thr (hm : M.2.2.2.2.2 = 100 + pc) (h : Q none I Lg R G) : am_J Γ M Q d k n pc L [] I Lg R G :=
  fun ρ p e Rm s m args below meth c H locs cells slots Z C h1 h2 h3 h4 hW hl hoL hoS ret ls hL => ret ρ none I Lg R G H locs cells slots pc ls hW am_Ext.rf (fun v hv => by cases hv) hl (by omega) (by omega) h (Or.inr ⟨hm, hL.1.trans hoL.1⟩)
/-- a world in a heap that has grown -/
theorem am_Wd.grown {ρ : Nat → Nat → Nat} {H H1 : Heap} (hW : am_Wd Γ ρ I Lg R G H) (hz : H.size ≤ H1.size) (hq : ∀ q : Nat, q < H.size → H1[q]? = H[q]?) : am_Wd Γ ρ I Lg R G H1 := by
  obtain ⟨w1, w2, w3, w4, w5, w6, w7, w8, w9⟩ := hW
  refine ⟨fun c i hc hi => ?_, w2, w3, w4, w5, by omega, fun q h => by rw [hq q (by omega)]; exact w7 q h, w8, w9⟩
  exact (w1 c i hc hi).kept (hq _ (w1 c i hc hi).lt)
/-- the words of the throw that do not keep by themselves -/
abbrev tx_ng : List Cond := [.castable XNS XNS, .declares (Bundle.initS "java/lang/RuntimeException"), .declares (Bundle.initS "java/lang/Exception"), .declares (Bundle.initS Bundle.tN)]
/-- what the start tells for a throw -/
def am_TK (Γ : AMG) : Prop := Γ.l.stackTraces = false ∧ ∀ U, Γ.KX U → vx_Zq Bundle.tN "UNASSIGNED_STACK" Bundle.steD (fun q => Γ.HH.size ≤ q) U Γ.HH ∧ vx_Zq Bundle.tN "SUPPRESSED_SENTINEL" Bundle.listD (fun q => Γ.HH.size ≤ q) U Γ.HH ∧ (∀ w ∈ tx_ng, w.before #[] U = true) ∧ vk_R "StormLoft" 131 "no such KNOCK" (Γ.SA 4) U ∧ vk_R "StormLoft" 171 "no such EVENT" (Γ.SA 3) U ∧ vk_R "StormLoft" 195 "no such SOUND" (Γ.SA 5) U
def am_XC (Γ : AMG) (QX : II → LJ → RR → GG → Prop) (ρ : Nat → Nat → Nat) (G : GG) : String → State → State → Prop := fun E _ t => E = XNS ∧ ∃ (ρ' : Nat → Nat → Nat) (I' : II) (Lg' : LJ) (R' : RR) (G' : GG), am_Wd Γ ρ' I' Lg' R' G' t.heap ∧ am_Ext ρ G ρ' G' ∧ QX I' Lg' R' G'
/-- THE CONTRACT of a method that returns with Q or throws with QX -/
def am_SpX (Γ : AMG) (d k n : Nat) (M : MD) (args : List AV) (I : II) (Lg : LJ) (R : RR) (G : GG) (Q : QQ) (QX : II → LJ → RR → GG → Prop) : Prop :=
  ∀ ρ : Nat → Nat → Nat, am_GK Γ → am_okS G args → vx_Met Γ.l M.2.1 (am_ws M) (am_rm d k n) (am_Pc Γ ρ args I Lg R G) (am_Qc Γ Q ρ G) (am_XC Γ QX ρ G) k n (fun q => Γ.HH.size ≤ q)
theorem tx_atIn (ws : List Cond) (ps : List Nat) (hp : ws = ps.filterMap (fun i => lw_tbl[i]?)) (hg : ws.all goodWord = true) : ∀ w ∈ ws, w ∈ am_BIG := by
  intro w hw
  have hg1 := List.all_eq_true.mp hg w hw
  rw [hp] at hw
  obtain ⟨i, -, hi⟩ := List.mem_filterMap.mp hw
  exact List.mem_filter.mpr ⟨List.mem_of_getElem? hi, hg1⟩
theorem am_SpX.of {QX : II → LJ → RR → GG → Prop} {args : List AV} {is sa tpc : Nat} {tx : String} (hpl : plainName M.2.1.cls = true) (hM1 : M.1 = "StormLoft") (hown : M.2.1.cls = M.1) (hlen : (am_slots args).length ≤ M.2.2.2.1) (hret : M.2.2.2.2.1 = some .int) (hm : M.2.2.2.2.2 = 100 + tpc)
    (d0 : decode M.2.2.1 tpc = .ok (.new 129, 3)) (d3 : decode M.2.2.1 (tpc + 3) = .ok (.dup, 1)) (d4 : decode M.2.2.1 (tpc + 4) = .ok (.ldc is, 2)) (d6 : decode M.2.2.1 (tpc + 6) = .ok (.invokespecial 133, 3)) (d9 : decode M.2.2.1 (tpc + 9) = .ok (.athrow, 1))
    (hT : am_TK Γ) (hstr : ∀ U, Γ.KX U → vk_R "StormLoft" is tx sa U) (hwI : ∀ w ∈ Cond.classLink "StormLoft" 129 XNS :: Cond.initialized XNS :: (tx_at "StormLoft" 133).filter goodWord, w ∈ am_BIG) (hwN : ∀ w ∈ (tx_at "StormLoft" 133).filter (fun w => !goodWord w), w ∈ tx_ng)
    (hgood : ∀ w ∈ Cond.classLink "StormLoft" 129 XNS :: Cond.initialized XNS :: tx_at "StormLoft" 133, vx_ot w = true)
    (h : am_J Γ M (fun r I' Lg' R' G' => match r with
      | none => QX I' Lg' R' G'
      | some v => Q (some v) I' Lg' R' G') (d + 6) 0 0 0 (am_pad M.2.2.2.1 (am_slots args)) [] I Lg R G) : am_SpX Γ (d + 6) 1 6 M args I Lg R G Q QX := by
  intro ρ hGK hargs
  refine vx_ofW (cc := M.2.2.1) (maxL := M.2.2.2.1) (ret := M.2.2.2.2.1) hpl rfl ?_
  intro p e s m args9 below meth c s₁ B hml hex hv
  obtain ⟨rfl, hK, hW⟩ := hv
  have hts := atoms_spec (ws := am_ws M) B.pre
  have hown2 : s.vm.findClass M.1 = some m.cls := by rw [← hown]; exact findClass_of_methodNamed B.named
  have hin : meth.name = M.2.1.name := (name_of_methodNamed B.named B.method).1
  have hle : (lg_sl (args.map (am_con ρ))).length ≤ M.2.2.2.1 := by rw [← am_slots_len]; exact hlen
  have hl := lv_entry (args.map (am_con ρ)) (n := M.2.2.2.1) hle
  rw [lg_entry_eq]
  have hb := B.bytes
  have hr := B.returns
  have hx := B.exec
  have hlocks := B.notSynchronized
  have hbig : ∀ w ∈ am_BIG, w.before _ s = true := fun w hw => hts w (List.mem_cons_of_mem _ hw)
  refine h ρ p e (headSpec (am_ws M) (am_rm (d + 6) 1 6)).room s m _ below meth c s.heap [] 0 0 _ ⟨hx, hb, hml, hr, hlocks, hown2, hbig, fun z => hin.trans z, hK, hGK⟩ (Nat.le_refl _) (Nat.le_refl _) (Nat.zero_le _) (Nat.zero_le _) hW (fun q hq => by cases hq) ⟨am_pad_len _ _ hlen, fun v hv => ?_⟩ (fun v hv => by cases hv) ?_ _ ⟨hl.1.trans (am_pad_len _ _ hlen).symm, hl.2.1, fun i v hv => ?_⟩
  · obtain ⟨i, hi⟩ := List.getElem?_of_mem hv
    exact am_slots_ok args hargs v (List.mem_of_getElem? (am_pad_get _ _ i v hi))
  · intro ρ' r I' Lg' R' G' H' locs' cells' slots' pc' ls' b1 b2 b3 b4 b5 b6 b7 b8
    match r, b3, b7, b8 with
    | none, b3, b7, b8 =>
      obtain ⟨b8, b9⟩ := b8.resolve_left (fun z => by rw [hret] at z; cases z.2)
      have hpc : pc' = tpc := by omega
      subst hpc
      intro T hT9 X
      have hsz : s.heap.size ≤ H'.size := by
        have := (vx_frame (U := T) X.same).1
        rwa [hT9] at this
      have hS : va_S (fun q => Γ.HH.size ≤ q) s.heap H' locs' := ⟨hsz, fun q hq hn => by
        have hlt : q < Γ.HH.size := Nat.lt_of_not_le hn
        rw [b1.2.2.2.2.2.2.1 q hlt, hW.2.2.2.2.2.2.1 q hlt], b4⟩
      obtain ⟨t1, t2, t3, -⟩ := hT.2 s hK.2
      have hk9 : ∀ a : Nat, a < Γ.HH.size → ¬ Γ.HH.size ≤ a → s.heap[a]? = Γ.HH[a]? := fun a ha _ => hW.2.2.2.2.2.2.1 a ha
      have hat : ∀ w ∈ tx_at "StormLoft" 133, w.before _ s = true := vx_hat (B := tx_ng) (fun w hw => hbig w (hwI w (List.mem_cons_of_mem _ (List.mem_cons_of_mem _ hw)))) hwN (fun w hw => vx_ot_at (State.WarmedH.refl s) rfl (by
        simp only [tx_ng, List.mem_cons, List.not_mem_nil, or_false] at hw
        rcases hw with rfl | rfl | rfl | rfl <;> rfl) (t3 w hw))
      rw [hM1] at hown2
      refine tx_make (Q := vx_MQ below (am_Qc Γ Q ρ G) (am_XC Γ QX ρ G) _ s 1 6 (fun q => Γ.HH.size ≤ q)) (A := fun q => Γ.HH.size ≤ q) (rest := []) hx hb hT.1 hown2 (hbig _ (hwI _ List.mem_cons_self)) (hbig _ (hwI _ (List.mem_cons_of_mem _ List.mem_cons_self))) (hstr s hK.2) hat hgood (t1.kept hk9) (t2.kept hk9) hS (b9.trans hml.symm) d0 d3 d4 d6 ?_ ?_ ?_ ?_ (fun q H1 ce c1 c2 c3 c4 c5 => ?_) T hT9 X
      · show 2 + 3 < d + 6; omega
      · show (0 : Nat) + (13 * (2 + 1) + 43) ≤ am_LOC * (d + 6)
        have : am_LOC * (d + 6) = 48 * d + 288 := by show 48 * (d + 6) = _; omega
        omega
      · show cells' + 1 ≤ 1; omega
      · show slots' + 6 ≤ 6; omega
      · refine vx_athrow hx hb d9 (vx_out (E := XNS) (ce := ce) (fun x hx9 => (hex x hx9).elim) hlocks c1 c2 c3 (fun t ht hv => ⟨rfl, ρ', I', Lg', R', G', ?_, b2, b7⟩) b4 (by omega) (by omega))
        rw [ht]
        exact b1.grown c4 c5
    | some (.inl x), b3, b7, b8 =>
      refine vx_ret ?_
      refine W.widen (k := 1) (n := 6) (by omega) (by omega) ?_
      obtain ⟨b8, b9 | ⟨b9, b10⟩⟩ := b8
      · exact W.iret hx hb (hr.trans b9) (fun t ht hWm => ⟨ρ', some (.inl x), I', Lg', R', G', rfl, by rw [ht]; exact b1, b2, b3, b7⟩) b4 b8
      · rw [hret] at b9; cases b9
    | some (.inr (.inl x)), b3, b7, b8 =>
      obtain ⟨-, b9⟩ := b8
      rw [hret] at b9; cases b9
    | some (.inr (.inr o)), b3, b7, b8 =>
      obtain ⟨-, nm, b9⟩ := b8
      rw [hret] at b9; cases b9
  · have h1 := am_slots_get ρ args 0 i v (am_pad_get _ _ i v hv)
    rw [Nat.zero_add] at h1
    exact hl.2.2 _ h1
end AMX
