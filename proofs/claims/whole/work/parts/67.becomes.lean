/-! Plan.becomes. -/
def srtN (es : List EV) : Nat → List EV
  | 0 => es
  | n + 1 => sinkL (n + 1) (srtN es n)
def srt (es : List EV) : List EV := srtN es (es.length - 1)
theorem srtN_len {es : List EV} : ∀ n, (srtN es n).length = es.length
  | 0 => rfl
  | n + 1 => by
    unfold srtN
    rw [sinkL_len, srtN_len n]
theorem sinkL_mem : ∀ (k : Nat) (es : List EV) (e : EV), e ∈ sinkL k es → e ∈ es
  | 0, es, e, h => h
  | k + 1, es, e, h => by
    unfold sinkL at h
    split at h
    · next a b ha hb =>
      split at h
      · have h1 := sinkL_mem k _ e h
        rcases List.mem_or_eq_of_mem_set h1 with q | q
        · rcases List.mem_or_eq_of_mem_set q with q | q
          · exact q
          · rw [q]; exact List.mem_of_getElem? hb
        · rw [q]; exact List.mem_of_getElem? ha
      · exact h
    · exact h
theorem srtN_mem {es : List EV} : ∀ (n : Nat) (e : EV), e ∈ srtN es n → e ∈ es
  | 0, e, h => h
  | n + 1, e, h => srtN_mem n e (sinkL_mem (n + 1) _ e h)
set_option maxRecDepth 100000 in
theorem s_sink {Γ : AMG} {Q : QQ} {d p k : Nat} {x1 : Int32} {I : II} {Lg : LJ} {R : RR} {gc : Nat → Nat} {S : PS} (hx : x1 = zI k) (hk : k < S.1.length) (hp : PlanAt I p S) (hr : ∀ e ∈ S.1, -1000000 ≤ e.1 ∧ e.1 ≤ 1000000)
    (h : ∀ I' : II, FrI (V1 pvars p) I I' → PlanAt I' p (sinkL k S.1, S.2) → Q none I' Lg R (GM gc)) : am_Sp Γ (d + 2) 0 0 mX8_sink [vR 8 p, vI x1] I Lg R (GM gc) Q := by
  refine am_run vX8_sink 60 _ rfl rfl rfl rfl ?_
  exact sink_loop k x1 I S hx (Or.inl hk) hp hr FrI.rf h
set_option maxRecDepth 100000 in
theorem becomes_loop {Γ : AMG} {Q : QQ} {d p q : Nat} {I : II} {Lg : LJ} {R : RR} {gc : Nat → Nat} {es : List EV} {o : Bool} (hl : es.length ≤ 24) (hr : ∀ e ∈ es, -1000000 ≤ e.1 ∧ e.1 ≤ 1000000)
    (h : ∀ I' : II, FrI (V1 pvars p) I I' → PlanAt I' p (srt es, o) → Q none I' Lg R (GM gc)) :
    ∀ (m n : Nat) (x2 : Int32) (I1 : II), (n + m = es.length - 1) → x2 = zI (n + 1 : Nat) → FrI (V1 pvars p) I I1 → PlanAt I1 p (srtN es n, o) →
      am_J Γ mX8_becomes Q (d + 3) 0 0 12 [some (vR 8 p), some (vR 8 q), some (vI x2)] [] I1 Lg R (GM gc) := by
  intro m
  induction m with
  | zero =>
    intro n x2 I1 hn hx hf hp
    have hst : (I1 33 p 0).toInt = es.length := by rw [hp.1, srtN_len, zI_toInt (by omega) (by omega)]
    refine am_go vX8_becomes 60 ?_
    refine And.intro (fun c => ?_) (fun c => ?_)
    · refine h I1 hf ?_
      unfold srt
      rw [← show n = es.length - 1 by omega]
      exact hp
    · rw [hx, hst, zI_toInt (by omega) (by omega)] at c
      omega
  | succ m ih =>
    intro n x2 I1 hn hx hf hp
    have hst : (I1 33 p 0).toInt = es.length := by rw [hp.1, srtN_len, zI_toInt (by omega) (by omega)]
    refine am_go vX8_becomes 60 ?_
    refine And.intro (fun c => ?_) (fun c => ?_)
    · rw [hx, hst, zI_toInt (by omega) (by omega)] at c
      omega
    refine s_sink (k := n + 1) hx (by rw [srtN_len]; omega) hp (fun e he => hr e (srtN_mem n e he)) (fun I2 f2 p2 => ?_)
    exact ih (n + 1) _ I2 (by omega) (by rw [hx, zI_add]; congr 1) (hf.tr f2) p2
