/-! what always holds -/
theorem nn_nI {n : Nat} (h : n < 1000000) : (0 : Int32) ≤ nI n := by
  rw [show (0 : Int32) = nI 0 by decide, nIle (by omega) h]; omega
theorem pos_nI {n : Nat} (h : n < 1000000) (h0 : 0 < n) : (0 : Int32) < nI n := by
  rw [show (0 : Int32) = nI 0 by decide, nIlt (by omega) h]; exact h0
def okRt (r : Rt) : Prop := 0 ≤ rtO r ∧ 0 ≤ rtN r ∧ (rtM r = -1 ∨ 0 ≤ rtM r) ∧ 0 ≤ rtP r ∧ 0 ≤ rtS r ∧ (∀ x ∈ rtA r, 0 ≤ x) ∧ (∀ x ∈ rtC r, 0 ≤ x) ∧ (rtA r).length ≤ 8
def okC (s : Ps) : Prop := (∃ n, n ≤ 3 ∧ pPad s = nI n) ∧ (pMl s = -1 ∨ isPfx (pMl s) (pMa s)) ∧ wfR (pRul s) ∧ nnS s ∧ pNet s ≠ 0
def okT (s : Ps) : Prop := (∃ h, h ≤ 9 ∧ h ≠ 1 ∧ h ≠ 2 ∧ pHo s = nI h) ∧ (pSt s = 1 → 0 < pHt s) ∧ (pSt s ≠ 0 → pHo s ≠ 0 → 0 < pHt s) ∧ (pSt s = 3 → pHo s ≠ 0 → 0 < pKt s) ∧ 0 ≤ pId s ∧ (pSt s = 0 ∨ pSt s = 1 ∨ pSt s = 2 ∨ pSt s = 3)
def okI (s : Ps) : Prop := (∀ x ∈ pInb s, ∃ b, b < 256 ∧ x = nI b) ∧ (pInb s = [] ∨ (2 ≤ mOf (pInb s) 0 ∧ mOf (pInb s) 0 ≤ 60 ∧ (pInb s).length < mOf (pInb s) 0))
def okO (s : Ps) : Prop := ∀ y ∈ pOut s, (0 : Int32) ≤ y
def okR (s : Ps) : Prop := (pSt s ≠ 3 → ∀ k, pInc s k = none) ∧ ∀ k rt, pInc s k = some rt → okRt rt ∧ (pRole s = 0 → rtP rt = 100)
def okS (s : Ps) : Prop := okC s ∧ okT s ∧ okI s ∧ okO s ∧ okR s
def AI0 (a : Ab) : Prop := wfP (aPre a) ∧ (∀ k, (aPre a).length ≤ k → aOrg a k = false) ∧ ∀ p, p < 4 → okS (aPe a p)
def UTD (a : Ab) : Prop := ∀ p, p < 4 → pSt (aPe a p) = 3 → ∀ k, k < (aPre a).length → pTol (aPe a p) k = dueA a p k
def AInv (a : Ab) : Prop := AI0 a ∧ UTD a
section IV
variable {a b : Ab} {s t : Ps} {p k : Nat}
theorem okC_of (h : okC s) (e1 : pPad t = pPad s) (e2 : pMl t = pMl s) (e3 : pMa t = pMa s) (e4 : pRul t = pRul s) (e5 : pPen t = pPen s) (e6 : pNet t = pNet s) : okC t := by
  unfold okC nnS at *
  rw [e1, e2, e3, e4, e5, e6]; exact h
theorem okI_of (h : okI s) (e : pInb t = pInb s) : okI t := by unfold okI at *; rw [e]; exact h
theorem okI_nil (e : pInb t = []) : okI t := ⟨(fun x hx => by rw [e] at hx; cases hx), Or.inl e⟩
theorem okO_of (h : okO s) (e : pOut t = pOut s) : okO t := by unfold okO at *; rw [e]; exact h
theorem okR_of (h : okR s) (e1 : pInc t = pInc s) (e2 : pRole t = pRole s) (e3 : pSt t ≠ 3 → ∀ k, pInc s k = none) : okR t := by
  unfold okR at *
  rw [e1, e2]; exact ⟨e3, h.2⟩
theorem okR_none (e1 : ∀ k, pInc t k = none) : okR t := ⟨fun _ => e1, fun k rt h => by rw [e1 k] at h; cases h⟩
theorem okS_close (h : okS s) : okS (closeS s) := by
  refine ⟨okC_of h.1 cl_Pad cl_Ml cl_Ma cl_Rul cl_Pen cl_Net, ?_, okI_nil cl_Inb, okO_of h.2.2.2.1 cl_Out, okR_none (fun k => by rw [cl_Inc])⟩
  unfold okT
  rw [cl_Ho, cl_St, cl_Ht, cl_Kt, cl_Id]
  exact ⟨⟨0, by omega, by omega, by omega, by decide⟩, fun z => absurd z (by decide), fun z => absurd rfl z, fun z => absurd z (by decide), by decide, Or.inl rfl⟩
theorem okT_of (h : okT s) (e1 : pHo t = pHo s) (e2 : pSt t = pSt s) (e3 : pHt t = pHt s) (e4 : pKt t = pKt s) (e5 : pId t = pId s) : okT t := by
  unfold okT at *
  rw [e1, e2, e3, e4, e5]; exact h
theorem okS_out {l : List Int32} (h : okS s) (hl : ∀ y ∈ l, (0 : Int32) ≤ y) : okS (sOut s l) :=
  ⟨okC_of h.1 go_Pad go_Ml go_Ma go_Rul go_Pen go_Net, okT_of h.2.1 go_Ho go_St go_Ht go_Kt go_Id, okI_of h.2.2.1 go_Inb, by unfold okO; rw [go_Out]; exact hl, okR_of h.2.2.2.2 go_Inc go_Role (by rw [go_St]; exact h.2.2.2.2.1)⟩
theorem okS_tol {f : Nat → Option (List Int32)} (h : okS s) : okS (sTol s f) :=
  ⟨okC_of h.1 gt_Pad gt_Ml gt_Ma gt_Rul gt_Pen gt_Net, okT_of h.2.1 gt_Ho gt_St gt_Ht gt_Kt gt_Id, okI_of h.2.2.1 gt_Inb, okO_of h.2.2.2.1 gt_Out, okR_of h.2.2.2.2 gt_Inc gt_Role (by rw [gt_St]; exact h.2.2.2.2.1)⟩
theorem okS_send {m : List Int32} (h : okS s) (hm : ∀ y ∈ m, (0 : Int32) ≤ y) : okS (sendS s m) := by
  unfold sendS
  split
  · refine okS_out h (fun y hy => ?_)
    rcases List.mem_append.mp hy with q | q
    · exact h.2.2.2.1 y q
    · exact hm y q
  · exact okS_close h
theorem okS_end {c d : Int32} (h : okS s) (hc : 0 ≤ c) (hd : 0 ≤ d) : okS (endS s c d) := by
  unfold endS
  refine okS_close (okS_send h (fun y hy => ?_))
  simp only [List.mem_cons, List.not_mem_nil, or_false] at hy
  rcases hy with rfl | rfl | rfl | rfl
  · decide
  · decide
  · exact hc
  · exact hd
theorem AI0_pe (h : AI0 a) (hs : okS s) : AI0 (stPe a p s) := ⟨h.1, h.2.1, fun q hq => by
  by_cases e : q = p
  · subst e; rw [stPe_at]; exact hs
  · rw [stPe_ne e]; exact h.2.2 q hq⟩
theorem act_nn : ∀ {l : List Ru} {x y : Int32}, wfR l → act l x y = -1 ∨ 0 ≤ act l x y
  | [], _, _, _ => Or.inl rfl
  | q :: t, x, y, h => by
    rw [act_cons]
    split
    · exact Or.inr (h q (List.mem_cons_self ..)).2.1
    · exact act_nn (fun r hr => h r (List.mem_cons_of_mem _ hr))
theorem okRt_own : okRt ownR := ⟨by decide, by decide, Or.inl rfl, by decide, by decide, (fun x hx => by cases hx), (fun x hx => by cases hx), by decide⟩
theorem prx_pfx (h : wfP (aPre a)) : isPfx (prx a k).1 (prx a k).2 := by
  by_cases hk : k < (aPre a).length
  · exact wfP_at h hk
  · have : prx a k = (0, 0) := by
      unfold prx
      rw [List.getD_eq_getElem?_getD, List.getElem?_eq_none (by omega)]; rfl
    rw [this]; decide
theorem AI0_AW (h : AI0 a) : AW a := by
  refine ⟨⟨h.1, fun p hp => ⟨(h.2.2 p hp).1.2.2.1, fun k rt hk => ?_⟩⟩, fun p hp => ?_⟩
  · obtain ⟨⟨o1, o2, o3, o4, o5, -⟩, o6⟩ := (h.2.2 p hp).2.2.2.2.2 k rt hk
    exact ⟨by grind, o3, o6⟩
  · obtain ⟨c1, c2, c3, c4, c5⟩ := (h.2.2 p hp).1
    have hid := (h.2.2 p hp).2.1.2.2.2.2.1
    exact ⟨c1, c2, fun z => by rw [z] at hid; exact absurd hid (by decide), c5⟩
theorem AI0_okPad (h : AI0 a) : okPad a := fun p hp => (h.2.2 p hp).1.1
theorem dueA_nn {t : List Int32} (h : AI0 a) (hd : dueA a p k = some t) : ∀ y ∈ t, (0 : Int32) ≤ y := by
  unfold dueA at hd
  cases hb : bestO a k with
  | none => rw [hb] at hd; cases hd
  | some w =>
    rw [hb] at hd
    simp only at hd
    obtain ⟨hw, hC⟩ := bestO_some hb
    have hr : okRt (rtW a w k) := by
      by_cases e : w = 4
      · unfold rtW; rw [if_pos e]; exact okRt_own
      · exact ((h.2.2 w (by omega)).2.2.2.2.2 k _ (inW hC (by omega))).1
    have hpr : 0 ≤ prW a w k := by
      unfold prW
      split
      · decide
      · rename_i e
        unfold prf
        split
        · exact hr.2.2.2.1
        · rename_i e2
          exact (act_nn (h.2.2 w (by omega)).1.2.2.1).resolve_left e2
    have hid : idW a w = -1 ∨ 0 ≤ idW a w := by
      unfold idW
      split
      · exact Or.inl rfl
      · split
        · exact Or.inl rfl
        · exact Or.inr (h.2.2 w (by omega)).2.1.2.2.2.2.1
    obtain ⟨o1, o2, o3, o4, o5, o6, o7, o8⟩ := hr
    unfold dueW at hd
    split at hd
    · split at hd
      · split at hd
        · rename_i hc
          cases hd
          intro y hy
          unfold attO at hy
          simp only [List.mem_cons, List.mem_append, List.mem_replicate, List.not_mem_nil, or_false] at hy
          rcases hy with rfl | rfl | rfl | rfl | rfl | (⟨-, rfl⟩ | hy) | rfl | rfl | rfl
          · decide
          · decide
          · exact o1
          · decide
          · exact nn_nI (by omega)
          · decide
          · exact o6 y hy
          · decide
          · decide
          · decide
        · cases hd
      · split at hd
        · rename_i hc
          cases hd
          have hl2 : (rtC (rtW a w k)).length + 1 ≤ 6 ∨ idW a w = -1 := hc.symm
          intro y hy
          unfold attI at hy
          simp only [List.mem_cons, List.mem_append, List.not_mem_nil, or_false] at hy
          rcases hy with rfl | rfl | rfl | rfl | rfl | (((hy | rfl | rfl | rfl) | hy) | rfl | rfl | rfl) | hy
          · decide
          · decide
          · exact o1
          · decide
          · exact nn_nI (by omega)
          · exact o6 y hy
          · decide
          · decide
          · exact o2
          · split at hy
            · cases hy
            · rename_i hm
              simp only [List.mem_cons, List.not_mem_nil, or_false] at hy
              rcases hy with rfl | rfl | rfl
              · decide
              · decide
              · exact o3.resolve_left hm
          · decide
          · decide
          · exact hpr
          · split at hy
            · cases hy
            · rename_i hm
              have hl6 := hl2.resolve_right hm
              simp only [List.mem_cons, List.mem_append, List.not_mem_nil, or_false] at hy
              rcases hy with (rfl | rfl | rfl | rfl | rfl | rfl) | hy
              · decide
              · decide
              · unfold rSrc
                split
                · exact hid.resolve_left hm
                · exact o5
              · decide
              · exact nn_nI (by omega)
              · decide
              · exact o7 y hy
        · cases hd
    · cases hd
end IV
