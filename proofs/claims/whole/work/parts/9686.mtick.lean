/-! the model's tick -/
section MTI
variable {μ σ τ σ1 : rs_Mem} {a b : Ab} {p k : Nat} {s : Ps} {c : Int32}
theorem okS_close' (h : okC s) (hO : okO s) : okS (closeS s) := by
  refine ⟨okC_of h cl_Pad cl_Ml cl_Ma cl_Rul cl_Pen cl_Net, ?_, okI_nil cl_Inb, okO_of hO cl_Out, okR_none (fun k => by rw [cl_Inc])⟩
  unfold okT
  rw [cl_Ho, cl_St, cl_Ht, cl_Kt, cl_Id]
  exact ⟨⟨0, by omega, by omega, by omega, by decide⟩, fun z => absurd z (by decide), fun z => absurd rfl z, fun z => absurd z (by decide), by decide, Or.inl rfl⟩
theorem okS_end' {c d : Int32} (h : okC s) (hO : okO s) (hc : 0 ≤ c) (hd : 0 ≤ d) : okS (endS s c d) := by
  unfold endS
  have cf := cf_send (s := s) (m := [4, 3, c, d])
  have hnet : pNet (sendS s [4, 3, c, d]) = pNet s := cf.2.1
  refine okS_close' (okC_of h cf.2.2.1 cf.2.2.2.1 cf.2.2.2.2.1 cf.2.2.2.2.2.1 cf.2.2.2.2.2.2.1 hnet) ?_
  unfold sendS
  split
  · unfold okO
    rw [go_Out]
    intro y hy
    rcases List.mem_append.mp hy with q | q
    · exact hO y q
    · simp only [List.mem_cons, List.not_mem_nil, or_false] at q
      rcases q with rfl | rfl | rfl | rfl
      · decide
      · decide
      · exact hc
      · exact hd
  · exact okO_of hO cl_Out
theorem hold3 (h : okT s) (h0 : pHo s ≠ 0) : 0 < pHo s ∧ 0 < pHo s / 3 := by
  obtain ⟨H, q1, q2, q3, q4⟩ := h.1
  rw [q4] at h0 ⊢
  exact (by decide +kernel : ∀ H, H ≤ 9 → H ≠ 1 → H ≠ 2 → nI H ≠ 0 → 0 < nI H ∧ 0 < nI H / 3) H q1 q2 q3 h0
theorem okS_pass (h : okS s) : okS (passS s) := by
  unfold passS
  split
  · exact h
  · rename_i hr
    split
    · have e1 : okC (sHt s (pHt s - 1)) := okC_of h.1 (by simp only [pPad, sHt]) (by simp only [pMl, sHt]) (by simp only [pMa, sHt]) (by simp only [pRul, sHt]) (by simp only [pPen, sHt]) (by simp only [pNet, sHt])
      exact okS_end' e1 (okO_of h.2.2.2.1 (by simp only [pOut, sHt])) (by decide) (by decide)
    · rename_i hpos
      have hpos := Classical.not_not.mp hpos
      have h1 : okS (sHt s (pHt s - 1)) := okS_Ht h (fun _ => hpos) (fun _ _ => hpos)
      split
      · exact h1
      · rename_i h3
        have h3 := Classical.not_not.mp h3
        have hho : pHo s ≠ 0 := fun z => hr (Or.inr ⟨by rw [h3]; decide, z⟩)
        split
        · rename_i hk
          exact okS_Kt h1 (fun _ _ => hk)
        · refine okS_send ?_ (fun y hy => by simp only [List.mem_cons, List.not_mem_nil, or_false] at hy; rcases hy with rfl | rfl <;> decide)
          have e : sKt (sKt (sHt s (pHt s - 1)) (pKt s - 1)) (pHo s / 3) = sKt (sHt s (pHt s - 1)) (pHo s / 3) := by simp only [sKt]
          rw [e]
          exact okS_Kt h1 (fun _ _ => (hold3 h.2.1 hho).2)
theorem okS_dec (h : okS s) : okS (decS s) := by
  unfold decS
  exact okS_in h (fun k hk => nn_dec (h.1.2.2.2.1 k hk)) (fun k rt hk => h.2.2.2.2.2 k rt hk) (fun z => h.2.2.2.2.1 z)
theorem AI0_passN (h : AI0 a) : ∀ k, k ≤ 4 → AI0 (passN k a)
  | 0, _ => h
  | k + 1, hk => AI0_pe (AI0_passN h k (by omega)) (okS_pass ((AI0_passN h k (by omega)).2.2 k (by omega)))
theorem AI0_decN (h : AI0 a) : ∀ k, k ≤ 4 → AI0 (decN k a)
  | 0, _ => h
  | k + 1, hk => AI0_pe (AI0_decN h k (by omega)) (okS_dec ((AI0_decN h k (by omega)).2.2 k (by omega)))
theorem pre_passN : ∀ k, aPre (passN k a) = aPre a
  | 0 => rfl
  | k + 1 => pre_passN k
theorem pre_decN : ∀ k, aPre (decN k a) = aPre a
  | 0 => rfl
  | k + 1 => pre_decN k
theorem org_decN : ∀ k, aOrg (decN k a) = aOrg a
  | 0 => rfl
  | k + 1 => org_decN k
theorem decN_at {q : Nat} : ∀ k, q < k → aPe (decN k a) q = decS (aPe a q)
  | 0, h => by omega
  | k + 1, h => by
    unfold decN
    by_cases e : q = k
    · subst e
      rw [stPe_at, decN_ne q q (Nat.le_refl q)]
    · rw [stPe_ne e]
      exact decN_at k (by omega)
theorem AJ_tick (h : AJ a) : AJ (opTick a).2 := by
  unfold opTick
  refine AJ_tAll (AI0_decN (AI0_passN h.1.1 4 (by omega)) 4 (by omega)) ?_
  rw [pre_decN 4, pre_passN 4]; exact h.2
theorem MPe.sInA {f : Nat → Option Rt} {g : Nat → UInt64} {d : Nat → Bool} (h : MPe σ p s) (hf : Fp (fun u j => u = 313 ∨ u = 314) σ τ) (hm : ∀ k, k < 12 → MI1 τ p k (f k) (g k) (d k) (decide (pRole s = 0))) : MPe τ p (sDmp (sPen (sInc s f) g) d) := by
  obtain ⟨⟨a1, a2, a3, a4, a5, a6, a7, a8, a9, a10⟩, ⟨b1, b2, b3⟩, ⟨c1, c2, c3⟩, ⟨d1, d2, d3⟩, e, t⟩ := h
  have n : ∀ u j, (u < 313 ∨ 314 < u) → rs_I τ u j = rs_I σ u j := fun u j q1 => hf.I (by omega)
  refine ⟨⟨?_, ?_, ?_, ?_, ?_, ?_, ?_, ?_, ?_, ?_⟩, ?_, ?_, ?_, fun j hj => ?_, fun j hj => ?_⟩
  · rw [gi_Role]; exact (n _ _ (by omega)).trans a1
  · rw [gi_Net]; exact (n _ _ (by omega)).trans a2
  · rw [gi_St]; exact (n _ _ (by omega)).trans a3
  · rw [gi_Ht]; exact (n _ _ (by omega)).trans a4
  · rw [gi_Kt]; exact (n _ _ (by omega)).trans a5
  · rw [gi_Ho]; exact (n _ _ (by omega)).trans a6
  · rw [gi_Id]; exact (n _ _ (by omega)).trans a7
  · rw [gi_Pad]; exact (n _ _ (by omega)).trans a8
  · rw [gi_Ml]; exact (n _ _ (by omega)).trans a9
  · rw [gi_Ma]; exact (n _ _ (by omega)).trans a10
  · rw [gi_Rul]
    exact ⟨(n _ _ (by omega)).trans b1, b2, fun k hk => ⟨(n _ _ (by omega)).trans (b3 k hk).1, (n _ _ (by omega)).trans (b3 k hk).2.1, (n _ _ (by omega)).trans (b3 k hk).2.2⟩⟩
  · rw [gi_Inb]
    exact ⟨(n _ _ (by omega)).trans c1, c2, fun k hk => (n _ _ (by omega)).trans (c3 k hk)⟩
  · rw [gi_Out]
    exact ⟨(n _ _ (by omega)).trans d1, d2, fun k hk => (n _ _ (by omega)).trans (d3 k hk)⟩
  · rw [gi_Inc, gi_Pen, gi_Dmp, gi_Role]
    exact hm j hj
  · rw [gi_Tol]
    obtain ⟨x, y⟩ := t j hj
    refine ⟨fun q => (n _ _ (by omega)).trans (x q), fun t q => ?_⟩
    obtain ⟨y1, y2, y3⟩ := y t q
    exact ⟨(n _ _ (by omega)).trans y1, fun i hi => (n _ _ (by omega)).trans (y2 i hi), y3⟩
/-- one session's timers -/
theorem MR.ht {v : Int32} (h : MR μ σ a) (hp : p < 4) (e : τ = rs_sI σ 285 p v) : MR μ τ (stPe a p (sHt (aPe a p) v)) := by
  have f : Fp (CfP p) σ τ := by rw [e]; exact Fp.rf.sI (by unfold CfP; omega)
  obtain ⟨a1, a2, a3, a4, a5, a6, a7, a8, a9, a10⟩ := (h.2.2.2 p hp).1
  refine h.cfp f (by rw [e]; exact h.1) ((h.2.2.2 p hp).cf f ⟨?_, ?_, ?_, ?_, ?_, ?_, ?_, ?_, ?_, ?_⟩ (by simp only [pRul, sHt]) (by simp only [pInb, sHt]) (by simp only [pOut, sHt]) (by simp only [pInc, sHt]) (by simp only [pPen, sHt]) (by simp only [pDmp, sHt]) (by simp only [pTol, sHt]) (Or.inl (by simp only [pRole, sHt]))) hp
  · rw [e, I_ne (by omega)]; exact a1
  · rw [e, I_ne (by omega)]; exact a2
  · rw [e, I_ne (by omega)]; exact a3
  · rw [e]; exact I_same
  · rw [e, I_ne (by omega)]; exact a5
  · rw [e, I_ne (by omega)]; exact a6
  · rw [e, I_ne (by omega)]; exact a7
  · rw [e, I_ne (by omega)]; exact a8
  · rw [e, I_ne (by omega)]; exact a9
  · rw [e, I_ne (by omega)]; exact a10
theorem MR.kt {v : Int32} (h : MR μ σ a) (hp : p < 4) (e : τ = rs_sI σ 286 p v) : MR μ τ (stPe a p (sKt (aPe a p) v)) := by
  have f : Fp (CfP p) σ τ := by rw [e]; exact Fp.rf.sI (by unfold CfP; omega)
  obtain ⟨a1, a2, a3, a4, a5, a6, a7, a8, a9, a10⟩ := (h.2.2.2 p hp).1
  refine h.cfp f (by rw [e]; exact h.1) ((h.2.2.2 p hp).cf f ⟨?_, ?_, ?_, ?_, ?_, ?_, ?_, ?_, ?_, ?_⟩ (by simp only [pRul, sKt]) (by simp only [pInb, sKt]) (by simp only [pOut, sKt]) (by simp only [pInc, sKt]) (by simp only [pPen, sKt]) (by simp only [pDmp, sKt]) (by simp only [pTol, sKt]) (Or.inl (by simp only [pRole, sKt]))) hp
  · rw [e, I_ne (by omega)]; exact a1
  · rw [e, I_ne (by omega)]; exact a2
  · rw [e, I_ne (by omega)]; exact a3
  · rw [e, I_ne (by omega)]; exact a4
  · rw [e]; exact I_same
  · rw [e, I_ne (by omega)]; exact a6
  · rw [e, I_ne (by omega)]; exact a7
  · rw [e, I_ne (by omega)]; exact a8
  · rw [e, I_ne (by omega)]; exact a9
  · rw [e, I_ne (by omega)]; exact a10
theorem hk_St {v w : Int32} : pSt (sHt s v) = pSt s ∧ pSt (sKt s w) = pSt s ∧ pKt (sHt s v) = pKt s ∧ pKt (sKt s w) = w ∧ pHo (sHt s v) = pHo s ∧ pHo (sKt s w) = pHo s := by
  refine ⟨?_, ?_, ?_, ?_, ?_, ?_⟩ <;> simp only [pSt, pKt, pHo, sHt, sKt]
theorem P_tick1 {K7 : Nat → Int32 → rs_Mem → Prop} {Q : Int32 → rs_Mem → Prop} (h : MR μ σ a) (hA : AI0 a) (hp : p < 4) (kk : ∀ τ, MR μ τ (stPe a p (passS (aPe a p))) → K7 281 (nI (p + 1)) τ) :
    (vp_in (nI p) 4 ∧ ((pSt (aPe a p) = (1 : Int32) → (B_Mo_tick_40 NF K7 Q 281 (nI p) σ)) ∧ (¬ (pSt (aPe a p) = (1 : Int32)) → (vp_in (nI p) 4 ∧ ((pSt (aPe a p) = 0 → (B_Mo_tick_44 NF K7 Q 281 (nI p) σ)) ∧ (¬ (pSt (aPe a p) = 0) → (vp_in (nI p) 4 ∧ ((pHo (aPe a p) ≤ 0 → (B_Mo_tick_44 NF K7 Q 281 (nI p) σ)) ∧ (¬ (pHo (aPe a p) ≤ 0) → (B_Mo_tick_40 NF K7 Q 281 (nI p) σ)))))))))) := by
  have v4 : vp_in (nI p) 4 := vpn hp (by omega)
  have hs := hA.2.2 p hp
  obtain ⟨t1, t2, t3, t4, t5, t6⟩ := hs.2.1
  have hst : pHo (aPe a p) ≤ 0 ↔ pHo (aPe a p) = 0 := by
    obtain ⟨H, q1, q2, q3, q4⟩ := t1
    rw [q4, show (0 : Int32) = nI 0 by decide, nIle (by omega) (by omega), nIeq (by omega) (by omega)]; omega
  have b44 : (pSt (aPe a p) = 0 ∨ (pSt (aPe a p) ≠ 1 ∧ pHo (aPe a p) = 0)) → B_Mo_tick_44 NF K7 Q 281 (nI p) σ := fun hc => by
    have e : passS (aPe a p) = aPe a p := by unfold passS; rw [if_pos hc]
    rw [e] at kk
    unfold B_Mo_tick_44 B_Mo_tick_45
    refine w_t rfl (fun x ex => ?_)
    subst ex
    rw [nI_1]
    exact kk σ (h.pe Fp.rf h.1 (h.2.2.2 p hp) hp)
  have b99n : ∀ τ b, MR μ τ b → pSt (aPe b p) ≠ 3 → b = stPe a p (passS (aPe a p)) → B_Mo_tick_99 NF K7 Q 281 (nI p) τ := fun τ b g h3 hb => by
    unfold B_Mo_tick_99
    rw [gr_281_3 g.1, nf_284, nIc (by omega), (g.2.2.2 p hp).1.2.2.1]
    refine ⟨v4, v_f h3 (fun x ex => ?_)⟩
    subst ex
    rw [nI_1]
    exact kk τ (hb ▸ g)
  have b40 : (pSt (aPe a p) = 1 ∨ (pSt (aPe a p) ≠ 0 ∧ pHo (aPe a p) ≠ 0)) → B_Mo_tick_40 NF K7 Q 281 (nI p) σ := fun hc => by
    have hr : ¬ (pSt (aPe a p) = 0 ∨ (pSt (aPe a p) ≠ 1 ∧ pHo (aPe a p) = 0)) := by
      rintro (z | ⟨z1, z2⟩)
      · rcases hc with y | y
        · rw [z] at y; exact absurd y (by decide)
        · exact y.1 z
      · rcases hc with y | y
        · exact z1 y
        · exact y.2 z2
    have hht : 0 < pHt (aPe a p) := by
      rcases hc with y | y
      · exact t2 y
      · exact t3 y.1 y.2
    unfold passS at kk b99n
    rw [if_neg hr] at kk
    simp only [if_neg hr] at b99n
    unfold B_Mo_tick_40 B_Mo_tick_45
    refine w_f (by decide) ?_
    obtain ⟨a1, a2, a3, a4, a5, a6, a7, a8, a9, a10⟩ := (h.2.2.2 p hp).1
    rw [gr_281_4 h.1, nf_285, nIc (by omega), a4]
    refine ⟨v4, v4, fun σ1 e1 => ?_⟩
    have g := h.ht hp e1
    have hG1 : Gr σ1 := g.1
    obtain ⟨s1, s2, s3, s4, s5, s6⟩ := hk_St (s := aPe a p) (v := pHt (aPe a p) - 1) (w := pKt (aPe a p) - 1)
    obtain ⟨b1, b2, b3, b4, b5, b6, b7, b8, b9, b10⟩ := (g.2.2.2 p hp).1
    rw [stPe_at] at b3 b4 b5 b6
    have b4' : rs_I σ1 285 p = pHt (aPe a p) - 1 := by rw [e1]; exact I_same
    rw [s1] at b3
    rw [s3] at b5
    rw [s5] at b6
    rw [gr_281_4 hG1, nf_285, b4', gr_281_3 hG1, nf_284, b3, gr_281_5 hG1, nf_286, b5]
    refine ⟨v4, fun hne => ⟨v4, fun hn3 => ?_, fun h3 => ⟨v4, v4, fun σ2 e2 => ?_⟩⟩, fun he => ?_⟩
    · have hpos : 0 < pHt (aPe a p) - 1 := by grind
      exact b99n σ1 _ g (by rw [stPe_at, s1]; exact hn3) (by rw [if_neg (fun z => z hpos), if_pos hn3])
    · have hpos : 0 < pHt (aPe a p) - 1 := by grind
      have hho : pHo (aPe a p) ≠ 0 := by
        rcases hc with y | y
        · rw [h3] at y; exact absurd y (by decide)
        · exact y.2
      have hkt := t4 h3 hho
      rw [if_neg (fun z => z hpos), if_neg (fun z => z h3)] at kk
      have g2 := g.kt hp e2
      rw [stPe_at, stPe_self] at g2
      have hG2 : Gr σ2 := g2.1
      obtain ⟨u1, u2, u3, u4, u5, u6⟩ := hk_St (s := sHt (aPe a p) (pHt (aPe a p) - 1)) (v := 0) (w := pKt (aPe a p) - 1)
      have c3 : rs_I σ2 284 p = 3 := by rw [e2, I_ne (by omega), b3]; exact h3
      have c5 : rs_I σ2 286 p = pKt (aPe a p) - 1 := by rw [e2]; exact I_same
      have c6 : rs_I σ2 287 p = pHo (aPe a p) := by rw [e2, I_ne (by omega)]; exact b6
      unfold B_Mo_tick_99
      rw [gr_281_3 hG2, nf_284, nIc (by omega), c3, gr_281_5 hG2, nf_286, c5, gr_281_6 hG2, nf_287, c6]
      refine ⟨v4, v_t rfl ⟨v4, fun hnz x ex => ?_, fun hz => ⟨v4, v4, fun σ3 e3 => ?_⟩⟩⟩
      · subst ex
        rw [nI_1]
        have hkp : 0 < pKt (aPe a p) - 1 := by grind
        rw [if_pos hkp] at kk
        exact kk σ2 g2
      · have hkp : ¬ 0 < pKt (aPe a p) - 1 := by rw [hz]; decide
        rw [if_neg hkp] at kk
        have g3 := g2.kt hp e3
        rw [stPe_at, stPe_self] at g3
        refine P_Mo_keepA g3 hp (fun ρ r1 x ex => ?_)
        subst ex
        rw [nI_1]
        rw [stPe_at, stPe_self] at r1
        exact kk ρ r1
    · have hpos : ¬ 0 < pHt (aPe a p) - 1 := by rw [he]; decide
      simp only [if_pos hpos] at b99n
      refine P_Mo_endA g hp (fun ρ r1 => ?_)
      rw [stPe_at, stPe_self] at r1
      refine b99n ρ _ r1 ?_ rfl
      rw [stPe_at]
      unfold endS
      rw [cl_St]; decide
  exact ⟨v4, fun z => b40 (Or.inl z), fun z1 => ⟨v4, fun z => b44 (Or.inl z), fun z2 => ⟨v4, fun z => b44 (Or.inr ⟨z1, hst.mp z⟩), fun z => b40 (Or.inr ⟨z2, fun y => z (hst.mpr y)⟩)⟩⟩⟩
theorem M_tick {Q : Int32 → rs_Mem → Prop} (h : MR σ σ a) (hJ : AJ a) (kk : ∀ τ, MR τ τ (opTick a).2 → Lx σ τ → Q (opTick a).1 τ) : F_Mo_tick NF 281 σ Q := by
  have e4 : (4 : Int32) = nI 4 := by decide
  have e48 : (48 : Int32) = nI 48 := by decide
  intro σ1 e1
  have g := h.code e1
  unfold opTick at kk
  have hP4 := AI0_passN hJ.1.1 4 (by omega)
  have hD4 := AI0_decN hP4 4 (by omega)
  generalize hP : passN 4 a = b at kk hP4 hD4
  generalize hT : tAll 5 (decN 4 b) = f at kk
  have key3 : ∀ d k τ, k + d = 4 → MR σ1 τ f → L_Mo_tick_214 NF Q (d + 1) 281 (nI (upN f k)) (nI k) τ := by
    intro d
    induction d with
    | zero =>
      intro k τ hk hc
      have e : k = 4 := by omega
      subst e
      exact w_t (by decide) (kk τ hc.self (hc.lx e1))
    | succ d ih =>
      intro k τ hk hc
      have hk4 : k < 4 := by omega
      refine w_f (fun h => by rw [e4, nIle (by omega) (by omega)] at h; omega) ?_
      rw [gr_281_3 hc.1, nf_284, nIc (by omega), (hc.2.2.2 k hk4).1.2.2.1]
      have b235 : ∀ j : Nat, j = (if pSt (aPe f k) = 3 then 1 else 0) → B_Mo_tick_235 NF (L_Mo_tick_214 NF Q (d + 1)) Q 281 (nI k) (nI (upN f k)) (nI j) τ := fun j hj x ex y ey => by
        subst ey
        rw [nI_add] at ex
        subst ex
        rw [nI_1, hj]
        exact ih (k + 1) τ (by omega) hc
      refine ⟨vpn hk4 (by omega), fun hz => ?_, fun hz => ?_⟩
      · have := b235 0 (by rw [if_neg hz])
        exact this
      · have := b235 1 (by rw [if_pos hz])
        exact this
  have key2 : ∀ τ0, MR σ1 τ0 b → ∀ d i τ, i + d = 48 → (∀ q k, q < 4 → k < 12 → rs_D τ 313 (12 * q + k) = (if 12 * q + k < i then decP (pPen (aPe b q) k) else pPen (aPe b q) k) ∧ rs_I τ 314 (12 * q + k) = b2i (if 12 * q + k < i then dmpD (pDmp (aPe b q) k) (decP (pPen (aPe b q) k)) else pDmp (aPe b q) k)) → Fp (fun u j => u = 313 ∨ u = 314) τ0 τ → Gr τ → L_Mo_tick_145 NF Q (d + 1) 281 (nI i) τ := by
    intro τ0 g0 d
    induction d with
    | zero =>
      intro i τ hi r1 r2 r3
      have e : i = 48 := by omega
      subst e
      have gd : MR σ1 τ (decN 4 b) := by
        refine ⟨r3, ?_, ⟨?_, g0.2.2.1.2.tr (r2.mono fun u j z => by omega)⟩, fun q hq => ?_⟩
        · rw [pre_decN 4]; exact g0.2.1.fp r2 (by omega) (fun k => by omega) (fun k => by omega)
        · rw [org_decN 4]; exact g0.2.2.1.1.fp r2 (fun u j q1 q2 q3 q4 q5 => by omega)
        · rw [decN_at 4 hq]
          unfold decS
          refine (g0.2.2.2 q hq).sInA r2 (fun k hk => ?_)
          obtain ⟨u1, u2, u3, u4⟩ := (g0.2.2.2 q hq).2.2.2.2.1 k hk
          obtain ⟨w1, w2⟩ := r1 q k hq hk
          rw [if_pos (by omega)] at w1 w2
          exact ⟨(r2.I (by omega)).trans u1, fun rt z => (u2 rt z).fp r2 (fun u y => by omega) (fun j y1 y2 => by omega) (fun j y1 y2 => by omega), w1, w2⟩
      exact w_t (by decide) (P_Mo_tell gd (AI0_AW hD4) (fun ρ t1 => ⟨_, key3 4 0 ρ rfl (by rw [hT] at t1; exact t1)⟩))
    | succ d ih =>
      intro i τ hi r1 r2 r3
      refine w_f (fun h => by rw [e48, nIle (by omega) (by omega)] at h; omega) ?_
      obtain ⟨q, k, hq, hk, hqk⟩ : ∃ q k, q < 4 ∧ k < 12 ∧ i = 12 * q + k := ⟨i / 12, i % 12, by omega, Nat.mod_lt _ (by omega), by omega⟩
      obtain ⟨w1, w2⟩ := r1 q k hq hk
      rw [← hqk, if_neg (by omega)] at w1 w2
      have v48 : vp_in (nI i) 48 := vpn (by omega) (by omega)
      rw [gr_281_34 r3, nf_313, nIc (by omega), w1]
      refine ⟨v48, nn_dec ((hP4.2.2 q hq).1.2.2.2.1 k hk), v48, fun σ2 e2 => ?_⟩
      have hG2 : Gr σ2 := e2 ▸ r3
      have c1 : rs_D σ2 313 i = decP (pPen (aPe b q) k) := by rw [e2]; exact if_pos ⟨rfl, rfl⟩
      have c2 : rs_I σ2 314 i = b2i (pDmp (aPe b q) k) := by rw [e2]; exact w2
      rw [gr_281_35 hG2, nf_314, gr_281_34 hG2, nf_313, c1, c2]
      have fin : ∀ x : Bool, x = dmpD (pDmp (aPe b q) k) (decP (pPen (aPe b q) k)) → L_Mo_tick_145 NF Q (d + 1) 281 (nI (i + 1)) (rs_sI σ2 314 i (b2i x)) := fun x hx => by
        refine ih (i + 1) _ (by omega) (fun q' k' hq' hk' => ?_) (by rw [e2]; exact (r2.sD (Or.inl rfl)).sI (Or.inr rfl)) (Gr_I hG2)
        by_cases e : 12 * q' + k' = i
        · have eq : q' = q := by omega
          have ek : k' = k := by omega
          subst eq ek
          rw [if_pos (by omega), if_pos (by omega), e]
          exact ⟨by rw [D_I]; exact c1, by rw [I_same, hx]⟩
        · obtain ⟨y1, y2⟩ := r1 q' k' hq' hk'
          rw [ite_lt e, ite_lt e]
          exact ⟨by rw [D_I, e2, D_D, if_neg (fun z => e z.2)]; exact y1, by rw [I_nk e, e2]; exact y2⟩
      have lo : dmpD (pDmp (aPe b q) k) (decP (pPen (aPe b q) k)) = false → B_Mo_tick_198 NF (L_Mo_tick_145 NF Q (d + 1)) Q 281 (nI i) 314 (nI i) σ2 := fun hf => by
        unfold B_Mo_tick_198
        rw [nf_314, nIc (by omega)]
        refine ⟨v48, fun σ3 e3 x ex => ?_⟩
        subst ex
        rw [nI_1, e3]
        exact fin false hf.symm
      refine ⟨v48, fun z => lo ?_, fun z => ⟨v48, fun z2 => lo ?_, fun z2 => ⟨v48, fun σ3 e3 x ex => ?_⟩⟩⟩
      · unfold dmpD; rw [b2i_ne.mp z]; rfl
      · unfold dmpD; simp [z2]
      · subst ex
        rw [nI_1, e3]
        refine fin true ?_
        have hd : pDmp (aPe b q) k = true := by
          cases hc : pDmp (aPe b q) k with
          | true => rfl
          | false => rw [hc] at z; exact absurd rfl z
        unfold dmpD; simp [z2, hd]
  have key : ∀ d k τ, k + d = 4 → MR σ1 τ (passN k a) → L_Mo_tick_7 NF Q (d + 1) 281 (nI k) τ := by
    intro d
    induction d with
    | zero =>
      intro k τ hk hc
      have e : k = 4 := by omega
      subst e
      rw [hP] at hc
      refine w_t (by decide) ⟨_, key2 τ hc 48 0 τ rfl (fun q k hq hk => ?_) Fp.rf hc.1⟩
      obtain ⟨u1, u2, u3, u4⟩ := (hc.2.2.2 q hq).2.2.2.2.1 k hk
      rw [if_neg (by omega), if_neg (by omega)]
      exact ⟨u3, u4⟩
    | succ d ih =>
      intro k τ hk hc
      have hk4 : k < 4 := by omega
      refine w_f (fun h => by rw [e4, nIle (by omega) (by omega)] at h; omega) ?_
      have := P_tick1 (K7 := L_Mo_tick_7 NF Q (d + 1)) (Q := Q) hc (AI0_passN hJ.1.1 k (by omega)) hk4 (fun ρ r1 => ih (k + 1) ρ (by omega) r1)
      rw [gr_281_3 hc.1, nf_284, gr_281_6 hc.1, nf_287, nIc (by omega), (hc.2.2.2 k hk4).1.2.2.1, (hc.2.2.2 k hk4).1.2.2.2.2.2.1]
      exact this
  exact ⟨_, key 4 0 σ1 rfl g⟩
end MTI
