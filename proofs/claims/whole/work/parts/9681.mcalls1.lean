/-! the model's calls that set things -/
section MCB1
variable {μ σ τ σ1 : rs_Mem} {a b : Ab} {p : Nat} {s : Ps} {c : Int32}
theorem M_peer {x y z : Int32} {Q : rs_Mem → Prop} (h : MR σ σ a) (hJ : AJ a) (kk : ResU σ (opPeer a x y z) Q) : F_Mo_peer NF 281 x y z σ Q := by
  obtain ⟨j1, j2⟩ := AJ_peer (x := x) (y := y) (z := z) hJ
  have b64n : ∀ c : Int32, c ≠ 0 → (opPeer a x y z).1 = c → (opPeer a x y z).2 = a → B_Mo_peer_64 NF Q 281 x y z 281 c σ := fun c hc h1 h2 σ1 e1 => by
    have g := h.code e1
    refine w_f (by rw [e1, I_same]; exact hc) (doneU g e1 h1 h2 kk)
  have b37 : ¬ (okP x ∧ 0 ≤ y ∧ y ≤ 2 ∧ (y = 0 → isNum z ∧ z ≠ 100)) → B_Mo_peer_37 NF Q 281 x y z σ := fun hc => by
    unfold B_Mo_peer_37 B_Mo_peer_38
    exact v_t rfl (b64n 1 (by decide) (by unfold opPeer; rw [if_pos hc]) (by unfold opPeer; rw [if_pos hc]))
  have b33 : (okP x ∧ 0 ≤ y ∧ y ≤ 2 ∧ (y = 0 → isNum z ∧ z ≠ 100)) → B_Mo_peer_33 NF Q 281 x y z σ := fun hg => by
    obtain ⟨p, hp, rfl⟩ := okP_of hg.1
    have hs := (h.2.2.2 p hp).1
    have v4 : vp_in (nI p) 4 := vpn hp (by omega)
    unfold B_Mo_peer_33 B_Mo_peer_38
    refine v_f (by decide) ?_
    rw [gr_281_3 h.1, nf_284, nIc (by omega), hs.2.2.1]
    refine ⟨v4, fun h0 => ?_, fun h0 => b64n 2 (by decide) (by unfold opPeer; rw [if_neg (fun q => q hg), tN_nI (by omega), if_pos h0]) (by unfold opPeer; rw [if_neg (fun q => q hg), tN_nI (by omega), if_pos h0])⟩
    have eop : opPeer a (nI p) y z = (0, stPe a p (sNet (sRole (aPe a p) y) (if y = 0 then z else 100))) := by
      unfold opPeer; rw [if_neg (fun q => q hg), tN_nI (by omega), if_neg (fun q => q h0)]
    rw [eop] at kk j1 j2
    have hno := (hJ.1.1.2.2 p hp).2.2.2.2.1 (by rw [h0]; decide)
    intro σ1 e1
    have g := h.code e1
    have hG1 := g.1
    refine w_t (by rw [e1]; exact I_same) ?_
    rw [gr_281_1 hG1, nf_282, nIc (by omega)]
    refine ⟨v4, fun σ2 e2 => ?_⟩
    have hG2 : Gr σ2 := e2 ▸ hG1
    have b97 : ∀ v : Int32, v = (if y = 0 then z else 100) → B_Mo_peer_97 NF Q 281 283 (nI p) v σ2 := fun v hv => by
      rw [← hv] at kk j1 j2
      unfold B_Mo_peer_97
      rw [nf_283, nIc (by omega)]
      refine ⟨v4, fun σ3 e3 => ?_⟩
      have hG3 : Gr σ3 := e3 ▸ hG2
      have f3 : Fp (CfP p) σ1 σ3 := by rw [e3, e2]; exact (Fp.rf.sI (by unfold CfP; omega)).sI (by unfold CfP; omega)
      obtain ⟨a1, a2, a3, a4, a5, a6, a7, a8, a9, a10⟩ := (g.2.2.2 p hp).1
      have g3 : MR σ1 σ3 (stPe a p (sNet (sRole (aPe a p) y) v)) := by
        refine g.cfp f3 hG3 ((g.2.2.2 p hp).cf f3 ⟨?_, ?_, ?_, ?_, ?_, ?_, ?_, ?_, ?_, ?_⟩ (by simp only [pRul, sNet, sRole]) (by simp only [pInb, sNet, sRole]) (by simp only [pOut, sNet, sRole]) (by simp only [pInc, sNet, sRole]) (by simp only [pPen, sNet, sRole]) (by simp only [pDmp, sNet, sRole]) (by simp only [pTol, sNet, sRole]) (Or.inr hno)) hp
        · rw [e3, I_ne (by omega), e2]; exact I_same
        · rw [e3]; exact I_same
        · rw [e3, e2, I_ne (by omega), I_ne (by omega)]; exact a3
        · rw [e3, e2, I_ne (by omega), I_ne (by omega)]; exact a4
        · rw [e3, e2, I_ne (by omega), I_ne (by omega)]; exact a5
        · rw [e3, e2, I_ne (by omega), I_ne (by omega)]; exact a6
        · rw [e3, e2, I_ne (by omega), I_ne (by omega)]; exact a7
        · rw [e3, e2, I_ne (by omega), I_ne (by omega)]; exact a8
        · rw [e3, e2, I_ne (by omega), I_ne (by omega)]; exact a9
        · rw [e3, e2, I_ne (by omega), I_ne (by omega)]; exact a10
      exact M_tellU g3 e1 j1.1.1 rfl (j2 rfl).symm kk
    rw [gr_281_2 hG2]
    refine ⟨fun hle => b97 z ?_, fun hgt => b97 100 ?_⟩
    · rw [if_pos (by have := hg.2.1; grind)]
    · rw [if_neg (fun q => hgt (by rw [q]; decide))]
  unfold F_Mo_peer
  refine P_Mo_isPeer (fun hx => w_f (by decide) ⟨fun hy => b37 (fun q => by have := q.2.1; grind), fun hy => ⟨fun hy2 => b37 (fun q => by have := q.2.2.1; grind), fun hy2 => ⟨fun hy0 => b33 ⟨hx, by grind, by grind, fun q => by rw [q] at hy0; exact absurd hy0 (by decide)⟩, fun hy0 => ?_⟩⟩⟩) (fun hx => w_t rfl (b37 (fun q => hx q.1)))
  have hyz : y = 0 := by grind
  exact P_Mo_isNumber (fun hn => w_f (by decide) ⟨fun h100 => b37 (fun q => (q.2.2.2 hyz).2 h100), fun h100 => b33 ⟨hx, by grind, by grind, fun _ => ⟨hn, h100⟩⟩⟩) (fun hn => w_t rfl (b37 (fun q => hn (q.2.2.2 hyz).1)))
theorem M_rule {x y z u : Int32} {Q : rs_Mem → Prop} (h : MR σ σ a) (hJ : AJ a) (kk : ResU σ (opRule a x y z u) Q) : F_Mo_rule NF 281 x y z u σ Q := by
  have i3 : (3 : Int32) = nI 3 := by decide
  have b60n : ∀ c : Int32, c ≠ 0 → (opRule a x y z u).1 = c → (opRule a x y z u).2 = a → B_Mo_rule_60 NF Q 281 x y z u 281 c σ := fun c hc h1 h2 σ1 e1 => by
    have g := h.code e1
    exact w_f (by rw [e1, I_same]; exact hc) (doneU g e1 h1 h2 kk)
  have b32 : ¬ (okP x ∧ isPfx y z ∧ 0 ≤ u ∧ u ≤ 200) → B_Mo_rule_32 NF Q 281 x y z u σ := fun hc => by
    unfold B_Mo_rule_32 B_Mo_rule_33
    exact v_t rfl (b60n 1 (by decide) (by unfold opRule; rw [if_pos hc]) (by unfold opRule; rw [if_pos hc]))
  unfold F_Mo_rule
  refine P_Mo_isPeer (fun hx => w_f (by decide) (P_Mo_isPrefix (fun hpf => w_f (by decide) ⟨fun hu => b32 (fun q => by have := q.2.2.1; grind), fun hu => ⟨fun hu2 => b32 (fun q => by have := q.2.2.2; grind), fun hu2 => ?_⟩⟩) (fun hpf => w_t rfl (b32 (fun q => hpf q.2.1))))) (fun hx => w_t rfl (b32 (fun q => hx q.1)))
  have hg : okP x ∧ isPfx y z ∧ 0 ≤ u ∧ u ≤ 200 := ⟨hx, hpf, by grind, by grind⟩
  obtain ⟨p, hp, rfl⟩ := okP_of hx
  have v4 : vp_in (nI p) 4 := vpn hp (by omega)
  obtain ⟨r1, r2, r3⟩ := (h.2.2.2 p hp).2.1
  unfold B_Mo_rule_33
  refine v_f (by decide) ?_
  rw [gr_281_11 h.1, nf_292, nIc (by omega), r1, i3, nIeq (by omega) (by omega)]
  refine ⟨v4, fun h3 => ?_, fun h3 => b60n 2 (by decide) (by unfold opRule; rw [if_neg (fun q => q hg), tN_nI (by omega), if_pos h3]) (by unfold opRule; rw [if_neg (fun q => q hg), tN_nI (by omega), if_pos h3])⟩
  have eop : opRule a (nI p) y z u = (0, tAll 5 (stPe a p (sRul (aPe a p) (pRul (aPe a p) ++ [(y, z, u)])))) := by
    unfold opRule; rw [if_neg (fun q => q hg), tN_nI (by omega), if_neg h3]
  rw [eop] at kk
  intro σ1 e1
  have g := h.code e1
  have hG1 := g.1
  obtain ⟨s1, s2, s3⟩ := (g.2.2.2 p hp).2.1
  refine w_t (by rw [e1]; exact I_same) ?_
  rw [gr_281_11 hG1, nf_292, nIc (by omega), s1]
  refine ⟨v4, fun x ex => ?_⟩
  rw [i3, nI_mul, nI_add] at ex
  subst ex
  rw [gr_281_12 hG1, nf_293, nIc (n := 3 * p + (pRul (aPe a p)).length) (by omega)]
  refine ⟨vpn (by omega) (by omega), fun σ2 e2 => ?_⟩
  have hG2 : Gr σ2 := e2 ▸ hG1
  rw [gr_281_13 hG2, nf_294]
  refine ⟨vpn (by omega) (by omega), fun σ3 e3 => ?_⟩
  have hG3 : Gr σ3 := e3 ▸ hG2
  rw [gr_281_14 hG3, nf_295]
  refine ⟨vpn (by omega) (by omega), fun σ4 e4 => ?_⟩
  have hG4 : Gr σ4 := e4 ▸ hG3
  have c4 : rs_I σ4 292 p = nI (pRul (aPe a p)).length := by rw [e4, e3, e2, I_ne (by omega), I_ne (by omega), I_ne (by omega)]; exact s1
  rw [gr_281_11 hG4, nf_292, c4, nI_1]
  refine ⟨v4, v4, fun σ5 e5 => ?_⟩
  have hG5 : Gr σ5 := e5 ▸ hG4
  have f5 : Fp (fun u j => (u = 292 ∧ j = p) ∨ (293 ≤ u ∧ u ≤ 295 ∧ 3 * p ≤ j ∧ j < 3 * p + 3)) σ1 σ5 := by
    rw [e5, e4, e3, e2]
    exact (((Fp.rf.sI (by omega)).sI (by omega)).sI (by omega)).sI (by omega)
  have g5 : MR σ1 σ5 (stPe a p (sRul (aPe a p) (pRul (aPe a p) ++ [(y, z, u)]))) := by
    refine g.pe (f5.mono fun u j z => Or.inl (by unfold InP; omega)) hG5 ((g.2.2.2 p hp).sRul f5 ⟨?_, ?_, fun k hk => ?_⟩) hp
    · rw [e5, List.length_append]; exact I_same
    · rw [List.length_append, List.length_singleton]; omega
    · rw [List.length_append, List.length_singleton] at hk
      by_cases e : k = (pRul (aPe a p)).length
      · subst e
        rw [e5, I_ne (by omega), I_ne (by omega), I_ne (by omega), e4, I_ne (by omega), I_ne (by omega), I_same, e3, I_ne (by omega), I_same, e2, I_same]
        simp
      · have h3' := s3 k (by omega)
        rw [List.getElem_append_left (by omega)]
        rw [e5, I_ne (by omega), I_ne (by omega), I_ne (by omega), e4, I_ne (by omega), I_ne (by omega), I_nk (by omega), e3, I_ne (by omega), I_nk (by omega), I_ne (by omega), e2, I_nk (by omega), I_ne (by omega), I_ne (by omega)]
        exact h3'
  exact M_tellU g5 e1 (AI0_rule hJ.1.1 hp hpf hg.2.2.1 hg.2.2.2) rfl rfl kk
theorem M_unrule {x : Int32} {Q : rs_Mem → Prop} (h : MR σ σ a) (hJ : AJ a) (kk : ResU σ (opUnrule a x) Q) : F_Mo_unrule NF 281 x σ Q := by
  unfold F_Mo_unrule
  refine P_Mo_isPeer (fun hx => w_f (by decide) ?_) (fun hx => w_t rfl ?_)
  · obtain ⟨p, hp, rfl⟩ := okP_of hx
    have v4 : vp_in (nI p) 4 := vpn hp (by omega)
    have eop : opUnrule a (nI p) = (0, tAll 5 (stPe a p (sRul (aPe a p) []))) := by
      unfold opUnrule; rw [if_neg (fun q => q hx), tN_nI (by omega)]
    rw [eop] at kk
    intro σ1 e1
    have g := h.code e1
    refine w_t (by rw [e1]; exact I_same) ?_
    rw [gr_281_11 g.1, nf_292, nIc (by omega)]
    refine ⟨v4, fun σ2 e2 => ?_⟩
    have f2 : Fp (fun u j => (u = 292 ∧ j = p) ∨ (293 ≤ u ∧ u ≤ 295 ∧ 3 * p ≤ j ∧ j < 3 * p + 3)) σ1 σ2 := by rw [e2]; exact Fp.rf.sI (Or.inl ⟨rfl, rfl⟩)
    have g2 : MR σ1 σ2 (stPe a p (sRul (aPe a p) [])) := g.pe (f2.mono fun u j z => Or.inl (by unfold InP; omega)) (e2 ▸ g.1) ((g.2.2.2 p hp).sRul f2 ⟨by rw [e2]; exact I_same, Nat.zero_le _, fun k hk => absurd hk (Nat.not_lt_zero k)⟩) hp
    exact M_tellU g2 e1 (AI0_unrule hJ.1.1 hp) rfl rfl kk
  · unfold opUnrule at kk
    rw [if_pos hx] at kk
    intro σ1 e1
    exact w_f (by rw [e1, I_same]; decide) (doneU (h.code e1) e1 rfl rfl kk)
theorem M_outb {x y z u : Int32} {Q : rs_Mem → Prop} (h : MR σ σ a) (hJ : AJ a) (kk : ResU σ (opOutb a x y z u) Q) : F_Mo_outbound NF 281 x y z u σ Q := by
  have b35 : ¬ (okP x ∧ 0 ≤ y ∧ y ≤ 3 ∧ (z = -1 ∨ isPfx z u)) → B_Mo_outbound_35 NF Q 281 x y z u 281 σ := fun hc => by
    unfold opOutb at kk
    rw [if_pos hc] at kk
    intro σ1 e1
    exact w_f (by rw [e1, I_same]; decide) (doneU (h.code e1) e1 rfl rfl kk)
  have b31 : (okP x ∧ 0 ≤ y ∧ y ≤ 3 ∧ (z = -1 ∨ isPfx z u)) → B_Mo_outbound_31 NF Q 281 x y z u 281 σ := fun hg => by
    obtain ⟨p, hp, rfl⟩ := okP_of hg.1
    have v4 : vp_in (nI p) 4 := vpn hp (by omega)
    have eop : opOutb a (nI p) y z u = (0, tAll 5 (stPe a p (sMa (sMl (sPad (aPe a p) y) z) u))) := by
      unfold opOutb; rw [if_neg (fun q => q hg), tN_nI (by omega)]
    rw [eop] at kk
    intro σ1 e1
    have g := h.code e1
    refine w_t (by rw [e1]; exact I_same) ?_
    rw [gr_281_8 g.1, nf_289, nIc (by omega)]
    refine ⟨v4, fun σ2 e2 => ?_⟩
    have hG2 : Gr σ2 := e2 ▸ g.1
    rw [gr_281_9 hG2, nf_290]
    refine ⟨v4, fun σ3 e3 => ?_⟩
    have hG3 : Gr σ3 := e3 ▸ hG2
    rw [gr_281_10 hG3, nf_291]
    refine ⟨v4, fun σ4 e4 => ?_⟩
    have f4 : Fp (CfP p) σ1 σ4 := by rw [e4, e3, e2]; exact ((Fp.rf.sI (by unfold CfP; omega)).sI (by unfold CfP; omega)).sI (by unfold CfP; omega)
    obtain ⟨a1, a2, a3, a4, a5, a6, a7, a8, a9, a10⟩ := (g.2.2.2 p hp).1
    have g4 : MR σ1 σ4 (stPe a p (sMa (sMl (sPad (aPe a p) y) z) u)) := by
      refine g.cfp f4 (by rw [e4]; exact hG3) ((g.2.2.2 p hp).cf f4 ⟨?_, ?_, ?_, ?_, ?_, ?_, ?_, ?_, ?_, ?_⟩ (by simp only [pRul, sMa, sMl, sPad]) (by simp only [pInb, sMa, sMl, sPad]) (by simp only [pOut, sMa, sMl, sPad]) (by simp only [pInc, sMa, sMl, sPad]) (by simp only [pPen, sMa, sMl, sPad]) (by simp only [pDmp, sMa, sMl, sPad]) (by simp only [pTol, sMa, sMl, sPad]) (Or.inl (by simp only [pRole, sMa, sMl, sPad]))) hp
      · rw [e4, e3, e2, I_ne (by omega), I_ne (by omega), I_ne (by omega)]; exact a1
      · rw [e4, e3, e2, I_ne (by omega), I_ne (by omega), I_ne (by omega)]; exact a2
      · rw [e4, e3, e2, I_ne (by omega), I_ne (by omega), I_ne (by omega)]; exact a3
      · rw [e4, e3, e2, I_ne (by omega), I_ne (by omega), I_ne (by omega)]; exact a4
      · rw [e4, e3, e2, I_ne (by omega), I_ne (by omega), I_ne (by omega)]; exact a5
      · rw [e4, e3, e2, I_ne (by omega), I_ne (by omega), I_ne (by omega)]; exact a6
      · rw [e4, e3, e2, I_ne (by omega), I_ne (by omega), I_ne (by omega)]; exact a7
      · rw [e4, e3, e2, I_ne (by omega), I_ne (by omega)]; exact I_same
      · rw [e4, e3, I_ne (by omega)]; exact I_same
      · rw [e4]; exact I_same
    exact M_tellU g4 e1 (AI0_outb hJ.1.1 hp hg.2.1 hg.2.2.1 hg.2.2.2) rfl rfl kk
  unfold F_Mo_outbound
  refine P_Mo_isPeer (fun hx => w_f (by decide) ⟨fun hy => b35 (fun q => by have := q.2.1; grind), fun hy => ⟨fun hy2 => b35 (fun q => by have := q.2.2.1; grind), fun hy2 => ⟨fun hz => b31 ⟨hx, by grind, by grind, Or.inl hz⟩, fun hz => P_Mo_isPrefix (fun hpf => w_f (by decide) (b31 ⟨hx, by grind, by grind, Or.inr hpf⟩)) (fun hpf => w_t rfl (b35 (fun q => q.2.2.2.elim hz hpf)))⟩⟩⟩) (fun hx => w_t rfl (b35 (fun q => hx q.1)))
end MCB1
