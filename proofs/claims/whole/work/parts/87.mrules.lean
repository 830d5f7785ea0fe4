/-! the model's rules -/
def wfR (l : List Ru) : Prop := ∀ q ∈ l, isPfx q.1 q.2.1 ∧ 0 ≤ q.2.2 ∧ q.2.2 ≤ 200
def wfP (pre : List (Int32 × Int32)) : Prop := ∀ q ∈ pre, isPfx q.1 q.2
section MRL
variable {μ σ : rs_Mem} {a : Ab} {p k : Nat} {Q : Int32 → rs_Mem → Prop}
theorem MR.prx_at (h : MR μ σ a) (hk : k < (aPre a).length) : rs_I σ 301 k = (prx a k).1 ∧ rs_I σ 302 k = (prx a k).2 := by
  have e : prx a k = (aPre a)[k] := by unfold prx; rw [List.getD_eq_getElem?_getD, List.getElem?_eq_getElem hk]; rfl
  rw [e]
  exact h.2.1.2.2 k hk
theorem wfP_at (h : wfP (aPre a)) (hk : k < (aPre a).length) : isPfx (prx a k).1 (prx a k).2 := by
  have e : prx a k = (aPre a)[k] := by unfold prx; rw [List.getD_eq_getElem?_getD, List.getElem?_eq_getElem hk]; rfl
  rw [e]
  exact h _ (List.getElem_mem _)
theorem P_Mo_isInternal (h : MR μ σ a) (hp : p < 4) (kk : Q (b2i (decide (pRole (aPe a p) ≠ 0))) σ) : F_Mo_isInternal NF 281 (nI p) σ Q := by
  unfold F_Mo_isInternal
  rw [gr_281_1 h.1, nf_282, nIc (by omega), (h.2.2.2 p hp).1.1]
  refine ⟨vpn hp (by omega), fun z => ?_, fun z => ?_⟩
  · rw [z] at kk; exact kk
  · have e : decide (pRole (aPe a p) ≠ 0) = true := decide_eq_true z
    rw [e] at kk; exact kk
theorem P_Mo_isRejected (h : MR μ σ a) (hp : p < 4) (hk : k < (aPre a).length) (hw : wfR (pRul (aPe a p))) (hP : wfP (aPre a)) (kk : Q (b2i (decide (act (pRul (aPe a p)) (prx a k).1 (prx a k).2 = 0))) σ) : F_Mo_isRejected NF 281 (nI p) (nI k) σ Q := by
  have e3 : (3 : Int32) = nI 3 := by decide
  have hk12 : k < 12 := by have := h.2.1.2.1; omega
  have hq := wfP_at hP hk
  obtain ⟨b1, b2, b3⟩ := (h.2.2.2 p hp).2.1
  generalize hL : pRul (aPe a p) = l at *
  intro x ex
  rw [e3, nI_mul] at ex
  subst ex
  have key : ∀ d i, i + d = l.length → act l (prx a k).1 (prx a k).2 = act (l.drop i) (prx a k).1 (prx a k).2 → L_Mo_isRejected_4 NF Q (d + 1) 281 (nI p) (nI k) (nI (3 * p + i)) σ := by
    intro d
    induction d with
    | zero =>
      intro i hi ht
      have e : i = l.length := by omega
      subst e
      rw [List.drop_length] at ht
      refine ⟨by rw [gr_281_11 h.1, nf_292]; exact vpn hp (by omega), w_t ?_ ?_⟩
      · rw [gr_281_11 h.1, nIc (by omega), b1, e3, nI_mul, nI_add]
        exact (nIle (by omega) (by omega)).mpr (by omega)
      · rw [ht] at kk; exact kk
    | succ d ih =>
      intro i hi ht
      obtain ⟨c1, c2, c3⟩ := b3 i (by omega)
      rw [List.drop_eq_getElem_cons (by omega)] at ht
      refine ⟨by rw [gr_281_11 h.1, nf_292]; exact vpn hp (by omega), w_f (fun z => ?_) ?_⟩
      · rw [gr_281_11 h.1, nIc (by omega), b1, e3, nI_mul, nI_add] at z
        have := (nIle (by omega) (by omega)).mp z; omega
      rw [gr_281_22 h.1, gr_281_23 h.1, gr_281_12 h.1, gr_281_13 h.1, nf_301, nf_302, nf_293, nf_294, nIc (n := k) (by omega), nIc (n := 3 * p + i) (by omega), (h.prx_at hk).1, (h.prx_at hk).2, c1, c2]
      refine ⟨vpn hk12 (by omega), vpn hk12 (by omega), vpn (by omega) (by omega), vpn (by omega) (by omega), P_Mo_isWithin (hw _ (List.getElem_mem _)).1 hq.2.2.1 hq.2.2.2.1 (fun q => ?_) (fun q => ?_)⟩
      · rw [act_cons, if_pos q] at ht
        rw [ht] at kk
        rw [gr_281_14 h.1, nf_295, c3]
        refine w_f (by decide) ⟨vpn (by omega) (by omega), fun z => ?_, fun z => ?_⟩
        · rw [decide_eq_false z] at kk; exact kk
        · rw [decide_eq_true z] at kk; exact kk
      · rw [act_cons, if_neg q] at ht
        refine w_t rfl (fun x' e => ?_)
        subst e
        rw [nI_1]
        exact ih (i + 1) (by omega) ht
  exact ⟨_, key l.length 0 (by omega) rfl⟩
theorem P_Mo_valued (h : MR μ σ a) (hp : p < 4) (hk : k < (aPre a).length) (hw : wfR (pRul (aPe a p))) (hP : wfP (aPre a)) {rt : Rt} (hi : pInc (aPe a p) k = some rt) (hext : pRole (aPe a p) = 0 → rtP rt = 100) (kk : Q (prf (aPe a p) rt (prx a k)) σ) : F_Mo_valued NF 281 (nI p) (nI k) σ Q := by
  have e3 : (3 : Int32) = nI 3 := by decide
  have e4 : (4 : Int32) = nI 4 := by decide
  have e12 : (12 : Int32) = nI 12 := by decide
  have hk12 : k < 12 := by have := h.2.1.2.1; omega
  have hq := wfP_at hP hk
  obtain ⟨b1, b2, b3⟩ := (h.2.2.2 p hp).2.1
  have hrt := ((h.2.2.2 p hp).2.2.2.2.1 k hk12).2.1 rt hi
  unfold prf at kk
  generalize hL : pRul (aPe a p) = l at *
  refine v_f (fun z => by rw [e4, nIeq (by omega) (by omega)] at z; omega) (fun x ex => ?_)
  rw [e3, nI_mul] at ex
  subst ex
  have key : ∀ d i, i + d = l.length → act l (prx a k).1 (prx a k).2 = act (l.drop i) (prx a k).1 (prx a k).2 → L_Mo_valued_12 NF Q (d + 1) 281 (nI p) (nI k) (nI (3 * p + i)) σ := by
    intro d
    induction d with
    | zero =>
      intro i hi2 ht
      have e : i = l.length := by omega
      subst e
      rw [List.drop_length] at ht
      refine ⟨by rw [gr_281_11 h.1, nf_292]; exact vpn hp (by omega), w_t ?_ ?_⟩
      · rw [gr_281_11 h.1, nIc (by omega), b1, e3, nI_mul, nI_add]
        exact (nIle (by omega) (by omega)).mpr (by omega)
      · rw [ht, if_pos (show act [] (prx a k).1 (prx a k).2 = -1 from rfl)] at kk
        refine P_Mo_isInternal h hp ⟨fun z => ?_, fun z => ?_⟩
        · have z : pRole (aPe a p) = 0 := Classical.not_not.mp (of_decide_eq_false (b2i_ne.mp z))
          rw [hext z] at kk
          exact kk
        · have z2 : ¬ pRole (aPe a p) = 0 := fun e => z (by rw [decide_eq_false (fun n => n e)]; rfl)
          rw [gr_281_30 h.1, nf_309, e12, nI_mul, nI_add, nIc (n := 12 * p + k) (by omega), hrt.2.2.2.2.2.1, if_neg (by rw [decide_eq_false z2]; decide)]
          exact ⟨vpn (by omega) (by omega), kk⟩
    | succ d ih =>
      intro i hi2 ht
      obtain ⟨c1, c2, c3⟩ := b3 i (by omega)
      rw [List.drop_eq_getElem_cons (by omega)] at ht
      refine ⟨by rw [gr_281_11 h.1, nf_292]; exact vpn hp (by omega), w_f (fun z => ?_) ?_⟩
      · rw [gr_281_11 h.1, nIc (by omega), b1, e3, nI_mul, nI_add] at z
        have := (nIle (by omega) (by omega)).mp z; omega
      rw [gr_281_22 h.1, gr_281_23 h.1, gr_281_12 h.1, gr_281_13 h.1, nf_301, nf_302, nf_293, nf_294, nIc (n := k) (by omega), nIc (n := 3 * p + i) (by omega), (h.prx_at hk).1, (h.prx_at hk).2, c1, c2]
      refine ⟨vpn hk12 (by omega), vpn hk12 (by omega), vpn (by omega) (by omega), vpn (by omega) (by omega), P_Mo_isWithin (hw _ (List.getElem_mem _)).1 hq.2.2.1 hq.2.2.2.1 (fun q => ?_) (fun q => ?_)⟩
      · rw [act_cons, if_pos q] at ht
        have hne : ¬ act l (prx a k).1 (prx a k).2 = -1 := fun e => by
          rw [ht] at e
          have := (hw _ (List.getElem_mem (by omega : i < l.length))).2.1
          grind
        rw [if_neg hne, ht] at kk
        rw [gr_281_14 h.1, nf_295, c3]
        exact w_f (by decide) ⟨vpn (by omega) (by omega), kk⟩
      · rw [act_cons, if_neg q] at ht
        refine w_t rfl (fun x' e => ?_)
        subst e
        rw [nI_1]
        exact ih (i + 1) (by omega) ht
  exact ⟨_, key l.length 0 (by omega) rfl⟩
theorem P_Mo_valued4 {x : Int32} (kk : Q 100 σ) : F_Mo_valued NF 281 4 x σ Q := v_t rfl kk
end MRL
