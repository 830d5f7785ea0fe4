/-! rounds of telling -/
theorem cl_Role {s : Ps} : pRole (closeS s) = pRole s := by simp only [pRole, closeS, sTol, sInc, sInb, sId, sHo, sKt, sHt, sSt, sOut]
theorem cl_Net {s : Ps} : pNet (closeS s) = pNet s := by simp only [pNet, closeS, sTol, sInc, sInb, sId, sHo, sKt, sHt, sSt, sOut]
theorem cl_Pad {s : Ps} : pPad (closeS s) = pPad s := by simp only [pPad, closeS, sTol, sInc, sInb, sId, sHo, sKt, sHt, sSt, sOut]
theorem cl_Ml {s : Ps} : pMl (closeS s) = pMl s := by simp only [pMl, closeS, sTol, sInc, sInb, sId, sHo, sKt, sHt, sSt, sOut]
theorem cl_Ma {s : Ps} : pMa (closeS s) = pMa s := by simp only [pMa, closeS, sTol, sInc, sInb, sId, sHo, sKt, sHt, sSt, sOut]
theorem cl_St {s : Ps} : pSt (closeS s) = 0 := by simp only [pSt, closeS, sTol, sInc, sInb, sId, sHo, sKt, sHt, sSt, sOut]
theorem cl_Ht {s : Ps} : pHt (closeS s) = 0 := by simp only [pHt, closeS, sTol, sInc, sInb, sId, sHo, sKt, sHt, sSt, sOut]
theorem cl_Kt {s : Ps} : pKt (closeS s) = 0 := by simp only [pKt, closeS, sTol, sInc, sInb, sId, sHo, sKt, sHt, sSt, sOut]
theorem cl_Ho {s : Ps} : pHo (closeS s) = 0 := by simp only [pHo, closeS, sTol, sInc, sInb, sId, sHo, sKt, sHt, sSt, sOut]
theorem cl_Id {s : Ps} : pId (closeS s) = 0 := by simp only [pId, closeS, sTol, sInc, sInb, sId, sHo, sKt, sHt, sSt, sOut]
theorem cl_Inb {s : Ps} : pInb (closeS s) = [] := by simp only [pInb, closeS, sTol, sInc, sInb, sId, sHo, sKt, sHt, sSt, sOut]
theorem cl_Out {s : Ps} : pOut (closeS s) = pOut s := by simp only [pOut, closeS, sTol, sInc, sInb, sId, sHo, sKt, sHt, sSt, sOut]
theorem cl_Rul {s : Ps} : pRul (closeS s) = pRul s := by simp only [pRul, closeS, sTol, sInc, sInb, sId, sHo, sKt, sHt, sSt, sOut]
theorem cl_Inc {s : Ps} : pInc (closeS s) = (fun _ => none) := by simp only [pInc, closeS, sTol, sInc, sInb, sId, sHo, sKt, sHt, sSt, sOut]
theorem cl_Pen {s : Ps} : pPen (closeS s) = pPen s := by simp only [pPen, closeS, sTol, sInc, sInb, sId, sHo, sKt, sHt, sSt, sOut]
theorem cl_Dmp {s : Ps} : pDmp (closeS s) = pDmp s := by simp only [pDmp, closeS, sTol, sInc, sInb, sId, sHo, sKt, sHt, sSt, sOut]
theorem cl_Tol {s : Ps} : pTol (closeS s) = (fun _ => none) := by simp only [pTol, closeS, sTol, sInc, sInb, sId, sHo, sKt, sHt, sSt, sOut]
theorem go_Role {s : Ps} {l : List Int32} : pRole (sOut s l) = pRole s := by simp only [pRole, sOut]
theorem go_Net {s : Ps} {l : List Int32} : pNet (sOut s l) = pNet s := by simp only [pNet, sOut]
theorem go_Pad {s : Ps} {l : List Int32} : pPad (sOut s l) = pPad s := by simp only [pPad, sOut]
theorem go_Ml {s : Ps} {l : List Int32} : pMl (sOut s l) = pMl s := by simp only [pMl, sOut]
theorem go_Ma {s : Ps} {l : List Int32} : pMa (sOut s l) = pMa s := by simp only [pMa, sOut]
theorem go_St {s : Ps} {l : List Int32} : pSt (sOut s l) = pSt s := by simp only [pSt, sOut]
theorem go_Ht {s : Ps} {l : List Int32} : pHt (sOut s l) = pHt s := by simp only [pHt, sOut]
theorem go_Kt {s : Ps} {l : List Int32} : pKt (sOut s l) = pKt s := by simp only [pKt, sOut]
theorem go_Ho {s : Ps} {l : List Int32} : pHo (sOut s l) = pHo s := by simp only [pHo, sOut]
theorem go_Id {s : Ps} {l : List Int32} : pId (sOut s l) = pId s := by simp only [pId, sOut]
theorem go_Inb {s : Ps} {l : List Int32} : pInb (sOut s l) = pInb s := by simp only [pInb, sOut]
theorem go_Out {s : Ps} {l : List Int32} : pOut (sOut s l) = l := by simp only [pOut, sOut]
theorem go_Rul {s : Ps} {l : List Int32} : pRul (sOut s l) = pRul s := by simp only [pRul, sOut]
theorem go_Inc {s : Ps} {l : List Int32} : pInc (sOut s l) = pInc s := by simp only [pInc, sOut]
theorem go_Pen {s : Ps} {l : List Int32} : pPen (sOut s l) = pPen s := by simp only [pPen, sOut]
theorem go_Dmp {s : Ps} {l : List Int32} : pDmp (sOut s l) = pDmp s := by simp only [pDmp, sOut]
theorem go_Tol {s : Ps} {l : List Int32} : pTol (sOut s l) = pTol s := by simp only [pTol, sOut]
theorem gt_Role {s : Ps} {f : Nat → Option (List Int32)} : pRole (sTol s f) = pRole s := by simp only [pRole, sTol]
theorem gt_Net {s : Ps} {f : Nat → Option (List Int32)} : pNet (sTol s f) = pNet s := by simp only [pNet, sTol]
theorem gt_Pad {s : Ps} {f : Nat → Option (List Int32)} : pPad (sTol s f) = pPad s := by simp only [pPad, sTol]
theorem gt_Ml {s : Ps} {f : Nat → Option (List Int32)} : pMl (sTol s f) = pMl s := by simp only [pMl, sTol]
theorem gt_Ma {s : Ps} {f : Nat → Option (List Int32)} : pMa (sTol s f) = pMa s := by simp only [pMa, sTol]
theorem gt_St {s : Ps} {f : Nat → Option (List Int32)} : pSt (sTol s f) = pSt s := by simp only [pSt, sTol]
theorem gt_Ht {s : Ps} {f : Nat → Option (List Int32)} : pHt (sTol s f) = pHt s := by simp only [pHt, sTol]
theorem gt_Kt {s : Ps} {f : Nat → Option (List Int32)} : pKt (sTol s f) = pKt s := by simp only [pKt, sTol]
theorem gt_Ho {s : Ps} {f : Nat → Option (List Int32)} : pHo (sTol s f) = pHo s := by simp only [pHo, sTol]
theorem gt_Id {s : Ps} {f : Nat → Option (List Int32)} : pId (sTol s f) = pId s := by simp only [pId, sTol]
theorem gt_Inb {s : Ps} {f : Nat → Option (List Int32)} : pInb (sTol s f) = pInb s := by simp only [pInb, sTol]
theorem gt_Out {s : Ps} {f : Nat → Option (List Int32)} : pOut (sTol s f) = pOut s := by simp only [pOut, sTol]
theorem gt_Rul {s : Ps} {f : Nat → Option (List Int32)} : pRul (sTol s f) = pRul s := by simp only [pRul, sTol]
theorem gt_Inc {s : Ps} {f : Nat → Option (List Int32)} : pInc (sTol s f) = pInc s := by simp only [pInc, sTol]
theorem gt_Pen {s : Ps} {f : Nat → Option (List Int32)} : pPen (sTol s f) = pPen s := by simp only [pPen, sTol]
theorem gt_Dmp {s : Ps} {f : Nat → Option (List Int32)} : pDmp (sTol s f) = pDmp s := by simp only [pDmp, sTol]
theorem gt_Tol {s : Ps} {f : Nat → Option (List Int32)} : pTol (sTol s f) = f := by simp only [pTol, sTol]
/-- what telling never changes of a peer -/
def cfS (s t : Ps) : Prop := pRole t = pRole s ∧ pNet t = pNet s ∧ pPad t = pPad s ∧ pMl t = pMl s ∧ pMa t = pMa s ∧ pRul t = pRul s ∧ pPen t = pPen s ∧ pDmp t = pDmp s
/-- what the choice looks at -/
def chS (s t : Ps) : Prop := pRole t = pRole s ∧ pRul t = pRul s ∧ pDmp t = pDmp s ∧ pInc t = pInc s ∧ pId t = pId s
theorem cfS.rf {s : Ps} : cfS s s := ⟨rfl, rfl, rfl, rfl, rfl, rfl, rfl, rfl⟩
theorem chS.rf {s : Ps} : chS s s := ⟨rfl, rfl, rfl, rfl, rfl⟩
theorem cfS.tr {s t u : Ps} (h : cfS s t) (g : cfS t u) : cfS s u := by
  obtain ⟨a1, a2, a3, a4, a5, a6, a7, a8⟩ := h
  obtain ⟨b1, b2, b3, b4, b5, b6, b7, b8⟩ := g
  exact ⟨b1.trans a1, b2.trans a2, b3.trans a3, b4.trans a4, b5.trans a5, b6.trans a6, b7.trans a7, b8.trans a8⟩
theorem cf_send {s : Ps} {m : List Int32} : cfS s (sendS s m) := by
  unfold sendS
  split
  · exact ⟨go_Role, go_Net, go_Pad, go_Ml, go_Ma, go_Rul, go_Pen, go_Dmp⟩
  · exact ⟨cl_Role, cl_Net, cl_Pad, cl_Ml, cl_Ma, cl_Rul, cl_Pen, cl_Dmp⟩
theorem cf_tol {s : Ps} {f : Nat → Option (List Int32)} : cfS s (sTol s f) := ⟨gt_Role, gt_Net, gt_Pad, gt_Ml, gt_Ma, gt_Rul, gt_Pen, gt_Dmp⟩
theorem stPe_at {a : Ab} {p : Nat} {s : Ps} : aPe (stPe a p s) p = s := upO_same
theorem stPe_ne {a : Ab} {p q : Nat} {s : Ps} (h : q ≠ p) : aPe (stPe a p s) q = aPe a q := upO_ne h
def cfA (a b : Ab) : Prop := aPre b = aPre a ∧ aOrg b = aOrg a ∧ ∀ p, cfS (aPe a p) (aPe b p)
theorem cfA.rf {a : Ab} : cfA a a := ⟨rfl, rfl, fun _ => cfS.rf⟩
theorem cfA.tr {a b c : Ab} (h : cfA a b) (g : cfA b c) : cfA a c := ⟨g.1.trans h.1, g.2.1.trans h.2.1, fun p => (h.2.2 p).tr (g.2.2 p)⟩
theorem cfA_pe {a : Ab} {p : Nat} {s : Ps} (h : cfS (aPe a p) s) : cfA a (stPe a p s) := ⟨rfl, rfl, fun q => by
  by_cases e : q = p
  · subst e; rw [stPe_at]; exact h
  · rw [stPe_ne e]; exact cfS.rf⟩
theorem cfA_tell1 {a : Ab} {p k : Nat} : cfA a (tell1 a p k).1 := by
  unfold tell1
  split
  · exact cfA.rf
  · exact cfA_pe (cf_tol.tr cf_send)
theorem okPad_cf {a b : Ab} (h : okPad a) (g : cfA a b) : okPad b := fun p hp => by
  obtain ⟨n, h1, h2⟩ := h p hp
  exact ⟨n, h1, by rw [(g.2.2 p).2.2.1]; exact h2⟩
theorem bestO_congr {a b : Ab} {k : Nat} (h1 : aPre b = aPre a) (h2 : aOrg b = aOrg a) (h3 : ∀ w, w < 4 → chS (aPe a w) (aPe b w)) : bestO b k = bestO a k := by
  have hp : prx b k = prx a k := by unfold prx; rw [h1]
  have hc : ∀ w, w < 5 → cnd b k w = cnd a k w := fun w hw => by
    unfold cnd
    by_cases e : w = 4
    · rw [if_pos e, if_pos e, h2]
    · obtain ⟨c1, c2, c3, c4, c5⟩ := h3 w (by omega)
      rw [if_neg e, if_neg e, c4, hp, c1, c5]
      unfold bad prf
      rw [c2, c3]
  unfold bestO
  refine winO_congr (fun w hw => runC_congr (fun t w hw => ?_) (fun w hw => ?_) (fun w hw => ?_) 7 w hw)
  · unfold msA; rw [hc w hw]
  · unfold fnA; rw [hc w hw]
  · unfold C0; rw [hc w hw]
theorem ch_tell1 {a : Ab} {p k : Nat} (h : (tell1 a p k).2 = true) : ∀ w, chS (aPe a w) (aPe (tell1 a p k).1 w) := fun w => by
  unfold tell1 at h ⊢
  split
  · exact chS.rf
  · rename_i hne
    rw [if_neg hne] at h
    have hf : fitS (aPe a p) (msgT (prx a k) (dueA a p k)) := of_decide_eq_true h
    by_cases e : w = p
    · subst e
      show chS _ (aPe (stPe a w _) w)
      rw [stPe_at]
      unfold sendS
      rw [gt_Out, if_pos hf]
      exact ⟨go_Role.trans gt_Role, go_Rul.trans gt_Rul, go_Dmp.trans gt_Dmp, go_Inc.trans gt_Inc, go_Id.trans gt_Id⟩
    · show chS _ (aPe (stPe a p _) w)
      rw [stPe_ne e]; exact chS.rf
theorem best_tell1 {a : Ab} {p k j : Nat} (h : (tell1 a p k).2 = true) : bestO (tell1 a p k).1 j = bestO a j := bestO_congr cfA_tell1.1 cfA_tell1.2.1 (fun w _ => ch_tell1 h w)
def tAt (a : Ab) (j : Nat) : Ab × Bool := if pSt (aPe a (j % 4)) = 3 then tell1 a (j % 4) (j / 4) else (a, true)
def rnd : Nat → Nat → Ab → Ab × Bool
  | 0, _, a => (a, true)
  | d + 1, j, a => if (tAt a j).2 then rnd d (j + 1) (tAt a j).1 else ((tAt a j).1, false)
def tAll : Nat → Ab → Ab
  | 0, a => a
  | n + 1, a => if (rnd (4 * (aPre a).length) 0 a).2 then (rnd (4 * (aPre a).length) 0 a).1 else tAll n (rnd (4 * (aPre a).length) 0 a).1
theorem cfA_tAt {a : Ab} {j : Nat} : cfA a (tAt a j).1 := by
  unfold tAt
  split
  · exact cfA_tell1
  · exact cfA.rf
theorem cfA_rnd : ∀ (d j : Nat) (a : Ab), cfA a (rnd d j a).1
  | 0, _, a => cfA.rf
  | d + 1, j, a => by
    unfold rnd
    split
    · exact cfA_tAt.tr (cfA_rnd d (j + 1) _)
    · exact cfA_tAt
theorem cfA_tAll : ∀ (n : Nat) (a : Ab), cfA a (tAll n a)
  | 0, a => cfA.rf
  | n + 1, a => by
    unfold tAll
    split
    · exact cfA_rnd _ _ _
    · exact (cfA_rnd _ _ _).tr (cfA_tAll n _)
section RO
variable {μ σ : rs_Mem} {a : Ab}
theorem P_Pe_isUp {p : Nat} {Q : Int32 → rs_Mem → Prop} (h : CR μ σ a) (hp : p < 4) (kk : Q (b2i (decide (pSt (aPe a p) = 3))) σ) : F_Pe_isUp NF (pb p) σ Q := by
  unfold F_Pe_isUp
  rw [(h.2.2.2 p hp).1.2.2.2.2.2.1]
  refine ⟨fun z => ?_, fun z => ?_⟩
  · rw [decide_eq_false z] at kk; exact kk
  · rw [decide_eq_true z] at kk; exact kk
theorem P_Sp_tellRound {Q : Int32 → rs_Mem → Prop} (h : CR μ σ a) (hpad : okPad a) (kk : ∀ τ, CR μ τ (rnd (4 * (aPre a).length) 0 a).1 → Q (b2i (rnd (4 * (aPre a).length) 0 a).2) τ) : F_Sp_tellRound NF 1 σ Q := by
  generalize hR : rnd (4 * (aPre a).length) 0 a = R at kk
  have e4 : (4 : Int32) = nI 4 := by decide
  have hlen := h.2.1.2.1
  have key : ∀ d i τ b, i + d = (aPre a).length → CR μ τ b → okPad b → aPre b = aPre a → rnd (4 * d) (4 * i) b = R → L_Sp_tellRound_2 NF Q (d + 1) 1 (nI i) τ := by
    intro d
    induction d with
    | zero =>
      intro i τ b hi g1 g2 g3 g4
      have e : R = (b, true) := by rw [← g4]; rfl
      subst e
      refine w_t ?_ (kk τ g1)
      rw [gr_1_0 g1.1, g1.2.1.1, g3]
      exact (nIle (by omega) (by omega)).mpr (by omega)
    | succ d ih =>
      intro i τ b hi g1 g2 g3 g4
      refine w_f (fun h => by rw [gr_1_0 g1.1, g1.2.1.1, g3] at h; have := (nIle (by omega) (by omega)).mp h; omega) ?_
      have hib : i < (aPre b).length := by rw [g3]; omega
      refine P_Sp_chooseFor g1 hib (fun τ1 c1 c2 => ?_)
      rw [gr_1_0 c1.1, gr_2_0 c1.1, gr_2_1 c1.1, nf_3, nf_4, gr_1_5 c1.1, nIc (by omega), (c1.prx_at hib).1, (c1.prx_at hib).2]
      refine ⟨vpn (by omega) (by omega), vpn (by omega) (by omega), P_Le_setPrefix (fun τ2 l1 l2 l3 => ?_)⟩
      have key2 : ∀ e p ρ c, p + e = 4 → CR μ ρ c → okPad c → aPre c = aPre a → LQ ρ (prx c i) → bestO c i = bestO b i → rnd (4 * d + e) (4 * i + p) c = R → L_Sp_tellRound_46 NF (L_Sp_tellRound_2 NF Q (d + 1)) Q (e + 1) 1 (nI i) (oI (bestO b i)) (nI p) ρ := by
        intro e
        induction e with
        | zero =>
          intro p ρ c hp k1 k2 k3 k4 k5 k6
          have e : p = 4 := by omega
          subst e
          refine w_t (by decide) (fun x ex => ?_)
          subst ex
          rw [nI_1]
          exact ih (i + 1) ρ c (by omega) k1 k2 k3 (by rw [← k6]; rfl)
        | succ e ihe =>
          intro p ρ c hp k1 k2 k3 k4 k5 k6
          have hp4 : p < 4 := by omega
          refine w_f (fun h => by rw [e4, nIle (by omega) (by omega)] at h; omega) ?_
          rw [gr_1_1 k1.1, nf_6, nIc (by omega), gr_6 k1.1 hp4]
          have hm : (4 * i + p) % 4 = p := by omega
          have hd : (4 * i + p) / 4 = i := by omega
          have hic : i < (aPre c).length := by rw [k3]; omega
          have hun : rnd (4 * d + e + 1) (4 * i + p) c = if (tAt c (4 * i + p)).2 then rnd (4 * d + e) (4 * i + p + 1) (tAt c (4 * i + p)).1 else ((tAt c (4 * i + p)).1, false) := rfl
          have k6 : rnd (4 * d + e + 1) (4 * i + p) c = R := k6
          rw [hun] at k6
          refine ⟨vpn hp4 (by omega), P_Pe_isUp k1 hp4 ⟨fun hz x ex => ?_, fun hz => ?_⟩⟩
          · subst ex
            rw [nI_1]
            have hz : ¬ pSt (aPe c p) = 3 := of_decide_eq_false (b2i_ne.mp hz)
            have ht : tAt c (4 * i + p) = (c, true) := by unfold tAt; rw [hm, if_neg hz]
            rw [ht] at k6
            exact ihe (p + 1) ρ c (by omega) k1 k2 k3 k4 k5 k6
          · have hz : pSt (aPe c p) = 3 := by
              by_cases e : pSt (aPe c p) = 3
              · exact e
              · rw [decide_eq_false e] at hz; exact absurd rfl hz
            have ht : tAt c (4 * i + p) = tell1 c p i := by unfold tAt; rw [hm, hd, if_pos hz]
            rw [ht] at k6
            rw [← k5]
            refine P_Sp_tell k1 k2 k4 hp4 hic (fun π p1 p2 => ?_)
            cases hb : (tell1 c p i).2 with
            | true =>
              rw [hb] at k6
              refine v_f (by decide) (fun x ex => ?_)
              subst ex
              rw [nI_1, k5]
              have hpre : aPre (tell1 c p i).1 = aPre c := cfA_tell1.1
              exact ihe (p + 1) π (tell1 c p i).1 (by omega) p1 (okPad_cf k2 cfA_tell1) (hpre.trans k3) (by unfold prx at p2 ⊢; rw [hpre]; exact p2) ((best_tell1 hb).trans k5) k6
            | false =>
              rw [hb] at k6
              refine v_t rfl ?_
              have e : R = ((tell1 c p i).1, false) := k6.symm
              subst e
              exact kk π p1
      have hc2 : CR μ τ2 b := c1.fl l2 (Gr_of c1.1 l3)
      exact ⟨_, key2 4 0 τ2 b rfl hc2 g2 g3 l1 rfl g4⟩
  exact ⟨_, key (aPre a).length 0 σ a (by omega) h hpad rfl hR⟩
theorem P_Sp_tellAll {Q : rs_Mem → Prop} (h : CR μ σ a) (hpad : okPad a) (kk : ∀ τ, CR μ τ (tAll 5 a) → Q τ) : F_Sp_tellAll NF 1 σ Q := by
  have e4 : (4 : Int32) = nI 4 := by decide
  generalize hR : tAll 5 a = R at kk
  have key : ∀ d i τ b, i + d = 5 → CR μ τ b → okPad b → tAll d b = R → L_Sp_tellAll_2 NF Q (d + 1) 1 (nI i) τ := by
    intro d
    induction d with
    | zero =>
      intro i τ b hi g1 g2 g3
      have e : i = 5 := by omega
      subst e
      have e : R = b := g3.symm
      subst e
      exact w_t (by decide) (kk τ g1)
    | succ d ih =>
      intro i τ b hi g1 g2 g3
      refine w_f (fun h => by rw [e4, nIlt (by omega) (by omega)] at h; omega) (P_Sp_tellRound g1 g2 (fun ρ r1 => ?_))
      unfold tAll at g3
      cases hb : (rnd (4 * (aPre b).length) 0 b).2 with
      | true =>
        rw [hb] at g3
        have e : R = (rnd (4 * (aPre b).length) 0 b).1 := g3.symm
        subst e
        exact w_f (by decide) (kk ρ r1)
      | false =>
        rw [hb] at g3
        refine w_t rfl (fun x ex => ?_)
        subst ex
        rw [nI_1]
        exact ih (i + 1) ρ _ (by omega) r1 (okPad_cf g2 (cfA_rnd _ _ _)) g3
  exact ⟨_, key 5 0 σ a rfl h hpad hR⟩
end RO
