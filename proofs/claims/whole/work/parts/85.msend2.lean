/-! the model sends -/
def SdP (p : Nat) : Nat → Nat → Prop := fun u j => MkP u j ∨ ClP p u j ∨ (u = 298 ∧ 200 * p ≤ j ∧ j < 200 * p + 200) ∨ (u = 299 ∧ j = p)
section MS2
variable {μ σ τ : rs_Mem} {p : Nat} {s : Ps}
theorem MPe.sOut {l : List Int32} (h : MPe σ p s) (f : Fp (fun u j => MkP u j ∨ (u = 298 ∧ 200 * p ≤ j ∧ j < 200 * p + 200) ∨ (u = 299 ∧ j = p)) σ τ) (g : MOb τ p l) : MPe τ p (sOut s l) := by
  obtain ⟨⟨a1, a2, a3, a4, a5, a6, a7, a8, a9, a10⟩, ⟨b1, b2, b3⟩, ⟨c1, c2, c3⟩, ⟨d1, d2, d3⟩, e, t⟩ := h
  have n : ∀ u j, 282 ≤ u → u ≠ 298 → u ≠ 299 → u ≠ 300 → rs_I τ u j = rs_I σ u j := fun u j q1 q2 q3 q4 => f.I (by unfold MkP; omega)
  refine ⟨⟨?_, ?_, ?_, ?_, ?_, ?_, ?_, ?_, ?_, ?_⟩, ?_, ?_, ?_, fun k hk => ?_, fun k hk => ?_⟩
  · rw [go_Role]; exact (n _ _ (by omega) (by omega) (by omega) (by omega)).trans a1
  · rw [go_Net]; exact (n _ _ (by omega) (by omega) (by omega) (by omega)).trans a2
  · rw [go_St]; exact (n _ _ (by omega) (by omega) (by omega) (by omega)).trans a3
  · rw [go_Ht]; exact (n _ _ (by omega) (by omega) (by omega) (by omega)).trans a4
  · rw [go_Kt]; exact (n _ _ (by omega) (by omega) (by omega) (by omega)).trans a5
  · rw [go_Ho]; exact (n _ _ (by omega) (by omega) (by omega) (by omega)).trans a6
  · rw [go_Id]; exact (n _ _ (by omega) (by omega) (by omega) (by omega)).trans a7
  · rw [go_Pad]; exact (n _ _ (by omega) (by omega) (by omega) (by omega)).trans a8
  · rw [go_Ml]; exact (n _ _ (by omega) (by omega) (by omega) (by omega)).trans a9
  · rw [go_Ma]; exact (n _ _ (by omega) (by omega) (by omega) (by omega)).trans a10
  · rw [go_Rul]
    exact ⟨(n _ _ (by omega) (by omega) (by omega) (by omega)).trans b1, b2, fun k hk => ⟨(n _ _ (by omega) (by omega) (by omega) (by omega)).trans (b3 k hk).1, (n _ _ (by omega) (by omega) (by omega) (by omega)).trans (b3 k hk).2.1, (n _ _ (by omega) (by omega) (by omega) (by omega)).trans (b3 k hk).2.2⟩⟩
  · rw [go_Inb]
    exact ⟨(n _ _ (by omega) (by omega) (by omega) (by omega)).trans c1, c2, fun k hk => (n _ _ (by omega) (by omega) (by omega) (by omega)).trans (c3 k hk)⟩
  · rw [go_Out]; exact g
  · rw [go_Inc, go_Pen, go_Dmp, go_Role]
    obtain ⟨x, y, z, w⟩ := e k hk
    exact ⟨(n _ _ (by omega) (by omega) (by omega) (by omega)).trans x, fun rt q => (y rt q).fp f (fun u q => by unfold MkP; omega) (fun j q1 q2 => by unfold MkP; omega) (fun j q1 q2 => by unfold MkP; omega), (f.D (by unfold MkP; omega)).trans z, (n _ _ (by omega) (by omega) (by omega) (by omega)).trans w⟩
  · rw [go_Tol]
    obtain ⟨x, y⟩ := t k hk
    refine ⟨fun q => (n _ _ (by omega) (by omega) (by omega) (by omega)).trans (x q), fun t q => ?_⟩
    obtain ⟨y1, y2, y3⟩ := y t q
    exact ⟨(n _ _ (by omega) (by omega) (by omega) (by omega)).trans y1, fun j hj => (n _ _ (by omega) (by omega) (by omega) (by omega)).trans (y2 j hj), y3⟩
theorem P_Mo_send {x : Int32} {l : List Int32} {Q : Int32 → rs_Mem → Prop} (hG : Gr σ) (hp : p < 4) (h : MPe σ p s) (hK : MK σ (x :: l))
    (kk : ∀ τ, MPe τ p (sendS s (nI (l.length + 1) :: l)) → Fp (SdP p) σ τ → Gr τ → Q (b2i (decide (fitS s (nI (l.length + 1) :: l)))) τ) : F_Mo_send NF 281 (nI p) σ Q := by
  obtain ⟨k1, k2, k3⟩ := hK
  rw [List.length_cons] at k1 k2
  have hd := h.2.2.2.1
  obtain ⟨d1, d2, d3⟩ := hd
  have t0 : (0 : Int32).toNatClampNeg = 0 := by decide
  have e200 : (200 : Int32) = nI 200 := by decide
  have v4 : vp_in (nI p) 4 := vpn hp (by omega)
  unfold F_Mo_send
  rw [gr_281_19 hG, nf_300, t0, k1]
  refine ⟨vpl rfl, fun σ1 e1 => ?_⟩
  have hG1 : Gr σ1 := e1 ▸ hG
  have f1 : Fp MkP σ σ1 := by rw [e1]; exact Fp.rf.sI (by unfold MkP; omega)
  have hs1 : MPe σ1 p s := h.fp f1 (fun u j z w => by unfold InP at z; unfold MkP at w; omega)
  have m1 : ∀ k (hk : k < (nI (l.length + 1) :: l).length), rs_I σ1 300 k = (nI (l.length + 1) :: l)[k] := fun k hk => by
    cases k with
    | zero => rw [e1]; exact I_same
    | succ k => rw [e1, I_nk (by omega)]; exact k3 (k + 1) (by simpa using hk) (by omega)
  have b20 : rs_I σ1 281 20 = nI (l.length + 1) := by rw [e1, I_ne (by omega)]; exact k1
  have b299 : rs_I σ1 299 p = nI (pOut s).length := by rw [e1, I_ne (by omega)]; exact d1
  rw [gr_281_18 hG1, nf_299, nIc (by omega), b299, b20, nI_add, e200, nIle (by omega) (by omega)]
  refine ⟨v4, fun hfit => ?_, fun hfit => ?_⟩
  · have hsend : sendS s (nI (l.length + 1) :: l) = sOut s (pOut s ++ (nI (l.length + 1) :: l)) := by unfold sendS; rw [if_pos (by simpa using hfit)]
    have hfs : decide (fitS s (nI (l.length + 1) :: l)) = true := decide_eq_true (by unfold fitS; simpa using hfit)
    rw [hsend, hfs] at kk
    have key : ∀ d i τ, i + d = l.length + 1 → (∀ k (hk : k < (pOut s ++ (nI (l.length + 1) :: l).take i).length), rs_I τ 298 (200 * p + k) = (pOut s ++ (nI (l.length + 1) :: l).take i)[k]) → Fp (fun u j => u = 298 ∧ 200 * p ≤ j ∧ j < 200 * p + 200) σ1 τ → Gr τ → L_Mo_send_36 NF Q (d + 1) 281 (nI p) (nI i) τ := by
      intro d
      induction d with
      | zero =>
        intro i τ hi g1 g2 g3
        have e : i = l.length + 1 := by omega
        subst e
        have c20 : rs_I τ 281 20 = nI (l.length + 1) := (g2.I (by omega)).trans b20
        have c299 : rs_I τ 299 p = nI (pOut s).length := (g2.I (by omega)).trans b299
        refine w_t (by rw [c20]; exact (nIle (by omega) (by omega)).mpr (by omega)) ?_
        rw [gr_281_18 g3, nf_299, nIc (by omega), c299, c20, nI_add]
        refine ⟨v4, v4, fun σ2 e2 => ?_⟩
        have hlt : (nI (l.length + 1) :: l).take (l.length + 1) = nI (l.length + 1) :: l := List.take_of_length_le (by simp)
        rw [hlt] at g1
        have f2 : Fp (fun u j => MkP u j ∨ (u = 298 ∧ 200 * p ≤ j ∧ j < 200 * p + 200) ∨ (u = 299 ∧ j = p)) σ σ2 := by
          rw [e2]
          exact ((f1.mono fun u j q => Or.inl q).tr (g2.mono fun u j q => Or.inr (Or.inl q))).sI (Or.inr (Or.inr ⟨rfl, rfl⟩))
        refine kk σ2 (h.sOut f2 ⟨by rw [e2, List.length_append, List.length_cons]; exact I_same, by rw [List.length_append, List.length_cons]; omega, fun k hk => ?_⟩) (f2.mono fun u j q => ?_) (by rw [e2]; exact g3)
        · rw [e2, I_ne (by omega)]; exact g1 k hk
        · unfold SdP
          rcases q with q | q | q
          · exact Or.inl q
          · exact Or.inr (Or.inr (Or.inl q))
          · exact Or.inr (Or.inr (Or.inr q))
      | succ d ih =>
        intro i τ hi g1 g2 g3
        have c20 : rs_I τ 281 20 = nI (l.length + 1) := (g2.I (by omega)).trans b20
        have c299 : rs_I τ 299 p = nI (pOut s).length := (g2.I (by omega)).trans b299
        have c300 : rs_I τ 300 i = (nI (l.length + 1) :: l)[i]'(by rw [List.length_cons]; omega) := (g2.I (by omega)).trans (m1 i (by rw [List.length_cons]; omega))
        refine w_f (fun h => by rw [c20] at h; have := (nIle (by omega) (by omega)).mp h; omega) ?_
        rw [gr_281_18 g3, nf_299, nIc (n := p) (by omega), c299, e200, nI_mul, nI_add, nI_add, gr_281_19 g3, nf_300, gr_281_17 g3, nf_298, nIc (n := i) (by omega), nIc (n := 200 * p + (pOut s).length + i) (by omega), c300]
        refine ⟨v4, vpn (by omega) (by omega), vpn (by omega) (by omega), fun σ2 e2 y ey => ?_⟩
        subst ey
        rw [nI_1]
        refine ih (i + 1) σ2 (by omega) (fun k hk => ?_) (by rw [e2]; exact g2.sI ⟨rfl, by omega, by omega⟩) (e2 ▸ g3)
        have hl1 : i < (nI (l.length + 1) :: l).length := by rw [List.length_cons]; omega
        have htk : (nI (l.length + 1) :: l).take (i + 1) = (nI (l.length + 1) :: l).take i ++ [(nI (l.length + 1) :: l)[i]] := List.take_succ_eq_append_getElem hl1
        have hti : ((nI (l.length + 1) :: l).take i).length = i := by rw [List.length_take]; omega
        rw [List.length_append, List.length_take] at hk
        rw [e2]
        by_cases ek : k = (pOut s).length + i
        · subst ek
          rw [show 200 * p + ((pOut s).length + i) = 200 * p + (pOut s).length + i by omega, I_same]
          simp only [htk, ← List.append_assoc]
          rw [List.getElem_append_right (as := pOut s ++ (nI (l.length + 1) :: l).take i) (by rw [List.length_append, hti]; omega)]
          simp [hti]
        · rw [I_nk (by omega)]
          rw [g1 k (by rw [List.length_append, hti]; omega)]
          simp only [htk, ← List.append_assoc]
          rw [List.getElem_append_left (as := pOut s ++ (nI (l.length + 1) :: l).take i) (by rw [List.length_append, hti]; omega)]
    exact ⟨_, key (l.length + 1) 0 σ1 (by omega) (fun k hk => by
      have hk2 : k < (pOut s).length := by simpa using hk
      rw [e1, I_ne (by omega)]
      simpa using d3 k hk2) Fp.rf hG1⟩
  · have hsend : sendS s (nI (l.length + 1) :: l) = closeS s := by unfold sendS; rw [if_neg (by simpa using hfit)]
    have hfs : decide (fitS s (nI (l.length + 1) :: l)) = false := decide_eq_false (by unfold fitS; simpa using hfit)
    rw [hsend, hfs] at kk
    exact P_Mo_close hG1 hp hs1 (fun τ g1 g2 g3 => kk τ g1 ((f1.mono fun u j q => Or.inl q).tr (g2.mono fun u j q => Or.inr (Or.inl q))) g3)
end MS2
