/-! What the start tells, and goes on telling. -/
def rL : List (String × Nat × String × Nat) := [("StormLoft$Reader", 63, "at", 0), ("StormLoft$Reader", 73, "times", 8), ("StormLoft$Reader", 78, "play", 6), ("StormLoft$Reader", 83, "storm", 7), ("StormLoft$Reader", 88, "end", 1), ("StormLoft$Reader", 124, "use", 9), ("StormLoft$Reader", 133, "with", 10), ("StormLoft$Reader", 149, "every", 2), ("StormLoft", 131, "no such KNOCK", 4), ("StormLoft", 171, "no such EVENT", 3), ("StormLoft", 195, "no such SOUND", 5)]
def am_KXd (HH : Heap) (b L : Nat) (xs : Nat → Int32) (ad : Nat → Nat) (U : State) : Prop :=
  va_X b L xs U HH ∧ (∀ q, kwOf q ≠ [] → ∃ v, sxP HH (ad q) v (kwOf q).length (fun j => zI ((kwOf q).getD j 0)) U HH) ∧ (∀ e ∈ rL, vk_R e.1 e.2.1 e.2.2.1 (ad e.2.2.2) U) ∧
  (vx_Zq Bundle.tN "UNASSIGNED_STACK" Bundle.steD (fun q => HH.size ≤ q) U HH ∧ vx_Zq Bundle.tN "SUPPRESSED_SENTINEL" Bundle.listD (fun q => HH.size ≤ q) U HH) ∧ (∀ w ∈ tx_ng, w.before #[] U = true) ∧ ∀ w ∈ lw_tbl, isNest w = true → w.before #[] U = true
theorem ao_same {ty : FieldType} {s U : State} (h : (Cond.arrayOver ty).before #[] (s.setVm U.vm) = true) : (Cond.arrayOver ty).before #[] U = true := by
  simp only [Cond.before, Cond.holds, Cond.value, State.vm_setVm] at h ⊢
  exact h
theorem nest_warm {w : Cond} (hn : isNest w = true) {s U : State} (hW : s.WarmedH U.vm) (h : w.before #[] s = true) : w.before #[] U = true := by
  match w, hn, h with
  | .methodLinkNest a i x y, _, h => exact va_Nw.warmM hW h
  | .arrayOver ty, _, h => exact ao_same (s := s) (by rw [Cond.arrayOver_setVmC hW.alike]; exact h)
theorem am_KXd.warm {HH : Heap} {b L : Nat} {xs : Nat → Int32} {ad : Nat → Nat} {s U : State} (h : am_KXd HH b L xs ad s) (hW : s.WarmedH U.vm) : am_KXd HH b L xs ad U := by
  obtain ⟨h1, h2, h3, h4, h5, h6⟩ := h
  refine ⟨va_X.moved hW.alike h1, fun q hq => ?_, fun e he => (h3 e he).warm hW, ⟨vx_Zq.moved hW.alike h4.1, vx_Zq.moved hW.alike h4.2⟩, fun w hw => ?_, fun w hw hn => nest_warm hn hW (h6 w hw hn)⟩
  · obtain ⟨v, hv⟩ := h2 q hq
    exact ⟨v, sxP.moved hW.alike hv⟩
  · have h := h5 w hw
    simp only [tx_ng, List.mem_cons, List.not_mem_nil, or_false] at hw
    rcases hw with rfl | rfl | rfl | rfl
    · exact va_Nw.warmC hW h
    · exact va_Nw.warmD hW h
    · exact va_Nw.warmD hW h
    · exact va_Nw.warmD hW h
theorem am_KXd.gk {Γ : AMG} {b L : Nat} {xs : Nat → Int32} {ad : Nat → Nat} (h : Γ.KX = am_KXd Γ.HH b L xs ad) : am_GK Γ := by
  refine ⟨fun s U h1 hW => ?_, fun u U h1 e => ?_⟩
  · rw [h] at h1 ⊢
    exact h1.warm hW
  · rw [h] at h1 ⊢
    exact h1.warm (by rw [← e]; exact State.WarmedH.refl u)
theorem am_KXd.st {Γ : AMG} {b L : Nat} {xs : Nat → Int32} (h : Γ.KX = am_KXd Γ.HH b L xs Γ.SA) : am_ST Γ := fun U hU q hq => by
  rw [h] at hU
  exact hU.2.1 q hq
theorem am_KXd.kw {Γ : AMG} {b L : Nat} {xs : Nat → Int32} (h : Γ.KX = am_KXd Γ.HH b L xs Γ.SA) : KWok Γ := fun U hU => by
  rw [h] at hU
  have h3 := hU.2.2.1
  exact ⟨h3 ("StormLoft$Reader", 63, "at", 0) (by simp [rL]), h3 ("StormLoft$Reader", 73, "times", 8) (by simp [rL]), h3 ("StormLoft$Reader", 78, "play", 6) (by simp [rL]), h3 ("StormLoft$Reader", 83, "storm", 7) (by simp [rL]), h3 ("StormLoft$Reader", 88, "end", 1) (by simp [rL]), h3 ("StormLoft$Reader", 124, "use", 9) (by simp [rL]), h3 ("StormLoft$Reader", 133, "with", 10) (by simp [rL]), h3 ("StormLoft$Reader", 149, "every", 2) (by simp [rL])⟩
theorem am_KXd.tk {Γ : AMG} {b L : Nat} {xs : Nat → Int32} (h : Γ.KX = am_KXd Γ.HH b L xs Γ.SA) (hf : Γ.l.stackTraces = false) : am_TK Γ := ⟨hf, fun U hU => by
  rw [h] at hU
  have h3 := hU.2.2.1
  exact ⟨hU.2.2.2.1.1, hU.2.2.2.1.2, hU.2.2.2.2.1, h3 ("StormLoft", 131, "no such KNOCK", 4) (by simp [rL]), h3 ("StormLoft", 171, "no such EVENT", 3) (by simp [rL]), h3 ("StormLoft", 195, "no such SOUND", 5) (by simp [rL])⟩⟩
theorem am_KXd.nk {Γ : AMG} {b L : Nat} {xs : Nat → Int32} {ad : Nat → Nat} (h : Γ.KX = am_KXd Γ.HH b L xs ad) : am_NK Γ := fun U hU w hw hn => by
  rw [h] at hU
  exact hU.2.2.2.2.2 w hw hn
theorem am_KXd.scr {Γ : AMG} {ad : Nat → Nat} (h : Γ.KX = am_KXd Γ.HH Γ.scr.1 Γ.scr.2.1 Γ.scr.2.2 ad) : am_scr Γ := fun U hU => by
  rw [h] at hU
  exact hU.1
