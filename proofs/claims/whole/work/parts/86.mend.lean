/-! the model ends a session -/
section MEN
variable {σ τ : rs_Mem} {p : Nat} {s : Ps}
theorem MPe.mk (h : MPe σ p s) (f : Fp MkP σ τ) : MPe τ p s := h.fp f (fun u j z w => by unfold InP at z; unfold MkP at w; omega)
theorem P_Mo_end {c d : Int32} {Q : rs_Mem → Prop} (hG : Gr σ) (hp : p < 4) (h : MPe σ p s) (kk : ∀ τ, MPe τ p (endS s c d) → Fp (SdP p) σ τ → Gr τ → Q τ) : F_Mo_end NF 281 (nI p) c d σ Q := by
  refine P_Mo_begin hG (fun τ1 b1 b2 b3 => P_Mo_add b3 b1 (by simp) (fun τ2 c1 c2 c3 => P_Mo_add c3 c1 (by simp) (fun τ3 d1 d2 d3 => ?_)))
  have f3 : Fp MkP σ τ3 := (b2.tr c2).tr d2
  have h3 := h.mk f3
  have d1' : MK τ3 (0 :: [3, c, d]) := by simpa using d1
  have e4 : nI ([3, c, d].length + 1) = 4 := (show nI 4 = 4 by decide)
  refine P_Mo_send d3 hp h3 d1' (fun τ4 g1 g2 g3 => ?_)
  rw [e4] at g1
  rw [e4]
  have f4 : Fp (SdP p) σ τ4 := (f3.mono fun u j q => Or.inl q).tr g2
  by_cases hf : fitS s [4, 3, c, d]
  · rw [decide_eq_true hf]
    exact w_f (by decide) (P_Mo_close g3 hp g1 (fun τ5 t1 t2 t3 => kk τ5 t1 (f4.tr (t2.mono fun u j q => Or.inr (Or.inl q))) t3))
  · rw [decide_eq_false hf]
    have e1 : sendS s [4, 3, c, d] = closeS s := by unfold sendS; rw [if_neg hf]
    have e2 : endS s c d = closeS s := by
      unfold endS
      rw [e1]
      simp only [closeS, sTol, sInc, sInb, sId, sHo, sKt, sHt, sSt]
    rw [e2] at kk
    rw [e1] at g1
    exact w_t rfl (kk τ4 g1 f4 g3)
theorem P_Mo_keepAlive {Q : rs_Mem → Prop} (hG : Gr σ) (hp : p < 4) (h : MPe σ p s) (kk : ∀ τ, MPe τ p (sendS s [2, 4]) → Fp (SdP p) σ τ → Gr τ → Q τ) : F_Mo_keepAlive NF 281 (nI p) σ Q := by
  refine P_Mo_begin hG (fun τ1 b1 b2 b3 => ?_)
  have h1 := h.mk b2
  have e2 : nI ([(4 : Int32)].length + 1) = 2 := (show nI 2 = 2 by decide)
  refine P_Mo_send b3 hp h1 b1 (fun τ4 g1 g2 g3 => ?_)
  rw [e2] at g1
  exact kk τ4 g1 ((b2.mono fun u j q => Or.inl q).tr g2) g3
end MEN
