/-! the model looks at a message -/
section MLK
variable {μ σ τ : rs_Mem} {a : Ab} {p n : Nat} {m : Nat → Nat} {s t : Ps} {Q : rs_Mem → Prop}
def CfP (p : Nat) : Nat → Nat → Prop := fun u j => 282 ≤ u ∧ u ≤ 291 ∧ j = p
theorem cf_in {u j : Nat} (z : CfP p u j) : InP p u j := by unfold CfP at z; unfold InP; omega
theorem MPe.cf (h : MPe σ p s) (f : Fp (CfP p) σ τ) (g : MCf τ p t) (e1 : pRul t = pRul s) (e2 : pInb t = pInb s) (e3 : pOut t = pOut s) (e4 : pInc t = pInc s) (e5 : pPen t = pPen s) (e6 : pDmp t = pDmp s) (e7 : pTol t = pTol s) (e8 : pRole t = pRole s ∨ ∀ k, pInc s k = none) : MPe τ p t := by
  obtain ⟨-, ⟨b1, b2, b3⟩, ⟨c1, c2, c3⟩, ⟨d1, d2, d3⟩, e, to⟩ := h
  have n : ∀ u j, 292 ≤ u → rs_I τ u j = rs_I σ u j := fun u j q1 => f.I (by unfold CfP; omega)
  refine ⟨g, ?_, ?_, ?_, fun j hj => ?_, fun j hj => ?_⟩
  · rw [e1]
    exact ⟨(n _ _ (by omega)).trans b1, b2, fun k hk => ⟨(n _ _ (by omega)).trans (b3 k hk).1, (n _ _ (by omega)).trans (b3 k hk).2.1, (n _ _ (by omega)).trans (b3 k hk).2.2⟩⟩
  · rw [e2]
    exact ⟨(n _ _ (by omega)).trans c1, c2, fun k hk => (n _ _ (by omega)).trans (c3 k hk)⟩
  · rw [e3]
    exact ⟨(n _ _ (by omega)).trans d1, d2, fun k hk => (n _ _ (by omega)).trans (d3 k hk)⟩
  · rw [e4, e5, e6]
    obtain ⟨x, y, z, w⟩ := e j hj
    refine ⟨(n _ _ (by omega)).trans x, fun rt q => ?_, (f.D (by unfold CfP; omega)).trans z, (n _ _ (by omega)).trans w⟩
    rcases e8 with e8 | e8
    · rw [e8]
      exact (y rt q).fp f (fun u q => by unfold CfP; omega) (fun j q1 q2 => by unfold CfP; omega) (fun j q1 q2 => by unfold CfP; omega)
    · rw [e8 j] at q; cases q
  · rw [e7]
    obtain ⟨x, y⟩ := to j hj
    refine ⟨fun q => (n _ _ (by omega)).trans (x q), fun t q => ?_⟩
    obtain ⟨y1, y2, y3⟩ := y t q
    exact ⟨(n _ _ (by omega)).trans y1, fun i hi => (n _ _ (by omega)).trans (y2 i hi), y3⟩
theorem MR.cfp (h : MR μ σ a) (f : Fp (CfP p) σ τ) (hG : Gr τ) (g : MPe τ p s) (hp : p < 4) : MR μ τ (stPe a p s) := h.pe (f.mono fun u j z => Or.inl (cf_in z)) hG g hp
theorem P_Mo_closeA (h : MR μ σ a) (hp : p < 4) (kk : ∀ τ, MR μ τ (stPe a p (closeS (aPe a p))) → Q τ) : F_Mo_close NF 281 (nI p) σ Q :=
  P_Mo_close h.1 hp (h.2.2.2 p hp) (fun τ g1 g2 g3 => kk τ (h.pe (g2.mono fun u j z => sd_in (Or.inr (Or.inl z))) g3 g1 hp))
theorem P_Mo_keepA (h : MR μ σ a) (hp : p < 4) (kk : ∀ τ, MR μ τ (stPe a p (sendS (aPe a p) [2, 4])) → Q τ) : F_Mo_keepAlive NF 281 (nI p) σ Q :=
  P_Mo_keepAlive h.1 hp (h.2.2.2 p hp) (fun τ g1 g2 g3 => kk τ (h.pe (g2.mono fun u j z => sd_in z) g3 g1 hp))
theorem P_Mo_agreed {ty : Int32} (h : MR μ σ a) (hp : p < 4) (kk : ∀ τ, MR μ τ (stPe a p (agrS (aPe a p) ty)) → Q τ) : F_Mo_agreed NF 281 (nI p) ty σ Q := by
  have v4 : vp_in (nI p) 4 := vpn hp (by omega)
  obtain ⟨a1, a2, a3, a4, a5, a6, a7, a8, a9, a10⟩ := (h.2.2.2 p hp).1
  unfold agrS at kk
  unfold F_Mo_agreed
  refine ⟨fun h4 => ?_, fun h4 => ?_⟩
  · rw [if_pos h4] at kk
    rw [gr_281_3 h.1, nf_284, nIc (by omega)]
    refine ⟨v4, fun σ1 e1 => ?_⟩
    have hG1 : Gr σ1 := e1 ▸ h.1
    have b6 : rs_I σ1 287 p = pHo (aPe a p) := by rw [e1, I_ne (by omega)]; exact a6
    rw [gr_281_6 hG1, nf_287, gr_281_4 hG1, nf_285, b6]
    refine ⟨v4, v4, fun σ2 e2 => ?_⟩
    have hG2 : Gr σ2 := e2 ▸ hG1
    have c6 : rs_I σ2 287 p = pHo (aPe a p) := by rw [e2, I_ne (by omega)]; exact b6
    rw [gr_281_6 hG2, nf_287, gr_281_5 hG2, nf_286, c6]
    refine ⟨v4, v4, fun σ3 e3 => ?_⟩
    have f3 : Fp (CfP p) σ σ3 := by rw [e3, e2, e1]; exact ((Fp.rf.sI (by unfold CfP; omega)).sI (by unfold CfP; omega)).sI (by unfold CfP; omega)
    refine kk σ3 (h.cfp f3 (by rw [e3]; exact hG2) ((h.2.2.2 p hp).cf f3 ⟨?_, ?_, ?_, ?_, ?_, ?_, ?_, ?_, ?_, ?_⟩ (by simp only [pRul, sKt, sHt, sSt]) (by simp only [pInb, sKt, sHt, sSt]) (by simp only [pOut, sKt, sHt, sSt]) (by simp only [pInc, sKt, sHt, sSt]) (by simp only [pPen, sKt, sHt, sSt]) (by simp only [pDmp, sKt, sHt, sSt]) (by simp only [pTol, sKt, sHt, sSt]) (Or.inl (by simp only [pRole, sKt, sHt, sSt]))) hp)
    · rw [e3, e2, e1, I_ne (by omega), I_ne (by omega), I_ne (by omega)]; exact a1
    · rw [e3, e2, e1, I_ne (by omega), I_ne (by omega), I_ne (by omega)]; exact a2
    · rw [e3, e2, e1, I_ne (by omega), I_ne (by omega)]; exact I_same
    · rw [e3, e2, I_ne (by omega)]; exact I_same
    · rw [e3]; exact I_same
    · rw [e3, I_ne (by omega)]; exact c6
    · rw [e3, e2, e1, I_ne (by omega), I_ne (by omega), I_ne (by omega)]; exact a7
    · rw [e3, e2, e1, I_ne (by omega), I_ne (by omega), I_ne (by omega)]; exact a8
    · rw [e3, e2, e1, I_ne (by omega), I_ne (by omega), I_ne (by omega)]; exact a9
    · rw [e3, e2, e1, I_ne (by omega), I_ne (by omega), I_ne (by omega)]; exact a10
  · rw [if_neg h4] at kk
    exact P_Mo_endA h hp kk
theorem P_Mo_opened {ty : Int32} (h : MR μ σ a) (hp : p < 4) (hM : ty = 1 → MM σ p 6 m) (kk : ∀ τ, MR μ τ (stPe a p (sentS (aPe a p) m ty)) → Q τ) : F_Mo_opened NF 281 (nI p) ty (nI (60 * p)) σ Q := by
  have v4 : vp_in (nI p) 4 := vpn hp (by omega)
  have i1 : (1 : Int32) = nI 1 := by decide
  have i2 : (2 : Int32) = nI 2 := by decide
  have i3 : (3 : Int32) = nI 3 := by decide
  have i4 : (4 : Int32) = nI 4 := by decide
  have i5 : (5 : Int32) = nI 5 := by decide
  have i7 : (7 : Int32) = nI 7 := by decide
  have i9 : (9 : Int32) = nI 9 := by decide
  have a2' : nI (60 * p) + (2 : Int32) = nI (60 * p + 2) := by rw [i2, nI_add]
  have a3' : nI (60 * p) + (3 : Int32) = nI (60 * p + 3) := by rw [i3, nI_add]
  have a4' : nI (60 * p) + (4 : Int32) = nI (60 * p + 4) := by rw [i4, nI_add]
  have a5' : nI (60 * p) + (5 : Int32) = nI (60 * p + 5) := by rw [i5, nI_add]
  obtain ⟨a1, a2, a3, a4, a5, a6, a7, a8, a9, a10⟩ := (h.2.2.2 p hp).1
  unfold sentS at kk
  unfold F_Mo_opened
  rw [gr_281_15 h.1, nf_296, a4', a2', a3', a5', nIc (n := 60 * p + 4) (by omega), nIc (n := 60 * p + 2) (by omega), nIc (n := 60 * p + 3) (by omega), nIc (n := 60 * p + 5) (by omega)]
  refine ⟨vpn (by omega) (by omega), fun x ex => ⟨fun h1 => ⟨vpn (by omega) (by omega), ?_⟩, fun h1 => ?_⟩⟩
  rotate_left
  · rw [if_pos h1] at kk
    exact P_Mo_endA h hp kk
  rw [if_neg (fun z => z h1)] at kk
  have hM := hM h1
  have b4 := (hM 4 (by omega)).2
  have b5 := (hM 5 (by omega)).2
  have b2 := (hM 2 (by omega)).2
  rw [hM.at' (j := 4) (by omega) rfl] at ex
  subst ex
  rw [hM.at' (j := 2) (by omega) rfl, hM.at' (j := 3) (by omega) rfl, hM.at' (j := 5) (by omega) rfl, gr_281_2 h.1, nf_283, nIc (n := p) (by omega), a2]
  have l4 : (nI (m 2) = (4 : Int32)) ↔ m 2 = 4 := by rw [i4]; exact nI_lit (by omega) (by omega)
  refine ⟨fun h2 => ⟨vpn (by omega) (by omega), v4, ?_⟩, fun h2 => ?_⟩
  rotate_left
  · rw [if_pos (fun z => h2 (l4.mpr z))] at kk
    exact P_Mo_endA h hp kk
  rw [if_neg (fun z => z (l4.mp h2))] at kk
  refine ⟨fun h3 => ⟨vpn (by omega) (by omega), ?_⟩, fun h3 => ?_⟩
  rotate_left
  · rw [if_pos h3] at kk
    exact P_Mo_endA h hp kk
  rw [if_neg (fun z => z h3)] at kk
  have bad : (¬ numN (m 5) ∨ m 5 = 7) → B_Mo_opened_101 NF Q 281 (nI p) σ := fun hb => by
    rw [if_pos hb] at kk
    exact P_Mo_endA h hp kk
  refine P_Mo_isNumber (fun hn => w_f (by decide) ?_) (fun hn => w_t rfl (bad (Or.inl (fun z => hn ((isNum_nI (by omega)).mpr z)))))
  rw [isNum_nI (by omega)] at hn
  rw [gr_281_15 h.1, nf_296, hM.at' (j := 5) (by omega) rfl, i7, nI_lit (by omega) (by omega)]
  refine ⟨vpn (by omega) (by omega), fun h7 => ?_, fun h7 => bad (Or.inr h7)⟩
  rw [if_neg (fun z => z.elim (fun y => y hn) h7)] at kk
  have bad2 : (m 4 = 1 ∨ m 4 = 2) → B_Mo_opened_123 NF Q 281 (nI p) σ := fun hb => by
    rw [if_pos hb] at kk
    exact P_Mo_endA h hp kk
  have l1 : (nI (m 4) = (1 : Int32)) ↔ m 4 = 1 := by rw [i1]; exact nI_lit (by omega) (by omega)
  have l2 : (nI (m 4) = (2 : Int32)) ↔ m 4 = 2 := by rw [i2]; exact nI_lit (by omega) (by omega)
  refine ⟨fun z => bad2 (Or.inl (l1.mp z)), fun z1 => ⟨fun z2 => ?_, fun z => bad2 (Or.inr (l2.mp z))⟩⟩
  rw [if_neg (fun z => z.elim (fun y => z1 (l1.mpr y)) (fun y => z2 (l2.mpr y)))] at kk
  have b153 : ∀ y : Int32, y = nI (min (m 4) 9) → B_Mo_opened_153 NF Q 281 (nI p) (nI (60 * p)) 287 (nI p) y σ := fun y hy => by
    unfold B_Mo_opened_153
    rw [← hy] at kk
    rw [nf_287, nIc (by omega), a5']
    refine ⟨v4, fun σ1 e1 => ?_⟩
    have hG1 : Gr σ1 := e1 ▸ h.1
    have g5 : rs_I σ1 296 (60 * p + 5) = nI (m 5) := by rw [e1, I_ne (by omega)]; exact hM.at' (j := 5) (by omega) rfl
    rw [gr_281_15 hG1, nf_296, gr_281_7 hG1, nf_288, nIc (n := 60 * p + 5) (by omega), g5]
    refine ⟨vpn (by omega) (by omega), v4, fun σ2 e2 => ?_⟩
    have hG2 : Gr σ2 := e2 ▸ hG1
    rw [gr_281_3 hG2, nf_284]
    refine ⟨v4, fun σ3 e3 => ?_⟩
    have hG3 : Gr σ3 := e3 ▸ hG2
    have g6 : rs_I σ3 287 p = y := by rw [e3, I_ne (by omega), e2, I_ne (by omega), e1]; exact I_same
    rw [gr_281_6 hG3, nf_287, gr_281_4 hG3, nf_285, g6]
    refine ⟨v4, v4, fun σ4 e4 => ?_⟩
    have f4 : Fp (CfP p) σ σ4 := by rw [e4, e3, e2, e1]; exact (((Fp.rf.sI (by unfold CfP; omega)).sI (by unfold CfP; omega)).sI (by unfold CfP; omega)).sI (by unfold CfP; omega)
    have hg : MR μ σ4 (stPe a p (sHt (sSt (sId (sHo (aPe a p) y) (nI (m 5))) 2) y)) := by
      refine h.cfp f4 (by rw [e4]; exact hG3) ((h.2.2.2 p hp).cf f4 ⟨?_, ?_, ?_, ?_, ?_, ?_, ?_, ?_, ?_, ?_⟩ (by simp only [pRul, sId, sHo, sHt, sSt]) (by simp only [pInb, sId, sHo, sHt, sSt]) (by simp only [pOut, sId, sHo, sHt, sSt]) (by simp only [pInc, sId, sHo, sHt, sSt]) (by simp only [pPen, sId, sHo, sHt, sSt]) (by simp only [pDmp, sId, sHo, sHt, sSt]) (by simp only [pTol, sId, sHo, sHt, sSt]) (Or.inl (by simp only [pRole, sId, sHo, sHt, sSt]))) hp
      · rw [e4, e3, e2, e1, I_ne (by omega), I_ne (by omega), I_ne (by omega), I_ne (by omega)]; exact a1
      · rw [e4, e3, e2, e1, I_ne (by omega), I_ne (by omega), I_ne (by omega), I_ne (by omega)]; exact a2
      · rw [e4, I_ne (by omega), e3]; exact I_same
      · rw [e4]; exact I_same
      · rw [e4, e3, e2, e1, I_ne (by omega), I_ne (by omega), I_ne (by omega), I_ne (by omega)]; exact a5
      · rw [e4, I_ne (by omega)]; exact g6
      · rw [e4, I_ne (by omega), e3, I_ne (by omega), e2]; exact I_same
      · rw [e4, e3, e2, e1, I_ne (by omega), I_ne (by omega), I_ne (by omega), I_ne (by omega)]; exact a8
      · rw [e4, e3, e2, e1, I_ne (by omega), I_ne (by omega), I_ne (by omega), I_ne (by omega)]; exact a9
      · rw [e4, e3, e2, e1, I_ne (by omega), I_ne (by omega), I_ne (by omega), I_ne (by omega)]; exact a10
    refine P_Mo_keepA hg hp (fun τ t1 => kk τ ?_)
    rw [stPe_at, stPe_self] at t1
    exact t1
  rw [gr_281_6 h.1, i9, nIle (by omega) (by omega)]
  refine ⟨fun hle => b153 _ (by rw [Nat.min_eq_right (by omega)]), fun hgt => b153 _ (by rw [Nat.min_eq_left (by omega)])⟩
theorem upA_2 : upA a p m n 2 = updA (stPe a p (sHt (aPe a p) (pHo (aPe a p)))) p m n := by
  obtain ⟨q1, q2, q3⟩ := sHt_get (s := aPe a p) (x := pHo (aPe a p))
  unfold upA updA
  rw [if_neg (by decide), if_neg (by decide), stPe_at, q1, q2, stPe_self, stPe_self]
  rfl
theorem P_Mo_look (h : MR μ σ a) (hp : p < 4) (hW : hwP (aPe a p)) (hnn : nnS (aPe a p)) (hnet : pNet (aPe a p) ≠ 0) (h2 : 2 ≤ m 0) (h60 : m 0 ≤ 60) (hM : MM σ p (m 0) m) (kk : ∀ τ, MR μ τ (lookA a p m) → Q τ) : F_Mo_look NF 281 (nI p) (nI (m 0)) (nI (60 * p)) σ Q := by
  have v4 : vp_in (nI p) 4 := vpn hp (by omega)
  have i1 : (1 : Int32) = nI 1 := by decide
  have i2 : (2 : Int32) = nI 2 := by decide
  have i3 : (3 : Int32) = nI 3 := by decide
  have i4 : (4 : Int32) = nI 4 := by decide
  have i6 : (6 : Int32) = nI 6 := by decide
  have hb1 := (hM 1 (by omega)).2
  have lit : ∀ (x j : Nat) (c : Int32), x < 1000 → j < 1000 → c = nI j → (nI x = c ↔ x = j) := fun x j c hx hj hc => by rw [hc]; exact nI_lit hx hj
  obtain ⟨a1, a2, a3, a4, a5, a6, a7, a8, a9, a10⟩ := (h.2.2.2 p hp).1
  unfold lookA at kk
  rw [if_neg (by omega)] at kk
  have main : ∀ y : Int32, ((1 ≤ m 1 ∧ m 1 ≤ 4) → (nI (m 0) = y ↔ (if m 1 = 1 then m 0 = 6 else if m 1 = 2 then 4 ≤ m 0 else if m 1 = 3 then m 0 = 4 else m 0 = 2))) → B_Mo_look_51 NF Q 281 (nI p) (nI (m 0)) (nI (60 * p)) (nI (m 1)) y σ := fun y hy => by
    have b65 : (m 1 < 1 ∨ 4 < m 1) → B_Mo_look_65 NF Q 281 (nI p) σ := fun hb => by
      rw [if_pos hb] at kk
      exact P_Mo_endA h hp kk
    unfold B_Mo_look_51
    refine ⟨fun z => b65 (Or.inl (by rw [i1, nIlt (by omega) (by omega)] at z; exact z)), fun z1 => ⟨fun z2 => ?_, fun z => b65 (Or.inr (by rw [i4, nIle (by omega) (by omega)] at z; omega))⟩⟩
    have z1 : ¬ m 1 < 1 := fun q => z1 (by rw [i1, nIlt (by omega) (by omega)]; exact q)
    have z2 : m 1 ≤ 4 := by rw [i4, nIle (by omega) (by omega)] at z2; exact z2
    have hy := hy ⟨by omega, z2⟩
    rw [if_neg (by omega)] at kk
    refine ⟨fun hs => ?_, fun hs => ?_⟩
    rotate_left
    · rw [if_neg (fun q => hs (hy.mpr q))] at kk
      exact P_Mo_endA h hp kk
    have hsz := hy.mp hs
    rw [if_pos hsz] at kk
    refine ⟨fun h3 => ?_, fun h3 => ?_⟩
    rotate_left
    · rw [lit (m 1) 3 3 (by omega) (by omega) i3] at h3
      rw [if_pos h3] at kk
      exact P_Mo_closeA h hp kk
    rw [lit (m 1) 3 3 (by omega) (by omega) i3] at h3
    rw [if_neg h3] at kk
    rw [gr_281_3 h.1, nf_284, nIc (by omega), a3]
    refine ⟨v4, fun hs1 => ⟨v4, fun hs2 => ?_, fun hs2 => ?_⟩, fun hs1 => ?_⟩
    rotate_left
    · rw [if_neg hs1, if_pos hs2] at kk
      exact P_Mo_agreed h hp kk
    · rw [if_pos hs1] at kk
      refine P_Mo_opened h hp (fun e => ?_) kk
      rw [lit (m 1) 1 1 (by omega) (by omega) i1] at e
      rw [if_pos e] at hsz
      rw [hsz] at hM
      exact hM
    rw [if_neg hs1, if_neg hs2] at kk
    refine ⟨fun h1 => ?_, fun h1 => ?_⟩
    rotate_left
    · unfold upA at kk
      rw [if_pos h1] at kk
      exact P_Mo_endA h hp kk
    rw [gr_281_6 h.1, nf_287, gr_281_4 h.1, nf_285, a6]
    refine ⟨v4, v4, fun σ1 e1 => ?_⟩
    have hG1 : Gr σ1 := e1 ▸ h.1
    have f1 : Fp (CfP p) σ σ1 := by rw [e1]; exact Fp.rf.sI (by unfold CfP; omega)
    have hg : MR μ σ1 (stPe a p (sHt (aPe a p) (pHo (aPe a p)))) := by
      refine h.cfp f1 hG1 ((h.2.2.2 p hp).cf f1 ⟨?_, ?_, ?_, ?_, ?_, ?_, ?_, ?_, ?_, ?_⟩ (by simp only [pRul, sHt]) (by simp only [pInb, sHt]) (by simp only [pOut, sHt]) (by simp only [pInc, sHt]) (by simp only [pPen, sHt]) (by simp only [pDmp, sHt]) (by simp only [pTol, sHt]) (Or.inl (by simp only [pRole, sHt]))) hp
      · rw [e1, I_ne (by omega)]; exact a1
      · rw [e1, I_ne (by omega)]; exact a2
      · rw [e1, I_ne (by omega)]; exact a3
      · rw [e1]; exact I_same
      · rw [e1, I_ne (by omega)]; exact a5
      · rw [e1, I_ne (by omega)]; exact a6
      · rw [e1, I_ne (by omega)]; exact a7
      · rw [e1, I_ne (by omega)]; exact a8
      · rw [e1, I_ne (by omega)]; exact a9
      · rw [e1, I_ne (by omega)]; exact a10
    refine ⟨fun hn2 => ?_, fun he2 => ?_⟩
    · unfold upA at kk
      rw [if_neg h1, if_pos hn2] at kk
      exact kk σ1 hg
    · rw [he2, upA_2] at kk
      obtain ⟨q1, q2, q3⟩ := sHt_get (s := aPe a p) (x := pHo (aPe a p))
      have hm2 : m 1 = 2 := (lit (m 1) 2 2 (by omega) (by omega) i2).mp he2
      rw [if_neg (by omega), if_pos hm2] at hsz
      rw [nI_add]
      refine P_Mo_update hg hp ?_ ?_ ?_ h60 hsz (hM.fp f1 (fun j z => by unfold CfP at z; omega)) kk
      · rw [stPe_at]
        intro k rt hk hr
        rw [q1] at hr
        exact hW k rt (by have : pInc (sHt (aPe a p) (pHo (aPe a p))) = pInc (aPe a p) := by simp only [pInc, sHt]
                          rw [this] at hk; exact hk) hr
      · rw [stPe_at]; unfold nnS; rw [q3]; exact hnn
      · rw [stPe_at, q2]; exact hnet
  unfold F_Mo_look
  rw [gr_281_15 h.1, nf_296, nI_1, nIc (n := 60 * p + 1) (by omega), hM.at' (j := 1) (by omega) rfl]
  refine ⟨vpn (by omega) (by omega), fun x ex => ?_⟩
  subst ex
  refine ⟨fun h1 => ⟨fun h3 => ⟨fun h4 => ?_, fun h4 => main _ (fun z => ?_)⟩, fun h3 => main _ (fun z => ?_)⟩, fun h1 => main _ (fun z => ?_)⟩
  · rw [lit (m 1) 1 1 (by omega) (by omega) i1] at h1
    rw [lit (m 1) 3 3 (by omega) (by omega) i3] at h3
    rw [lit (m 1) 4 4 (by omega) (by omega) i4] at h4
    rw [show ((4 : Int32) ≤ nI (m 0)) = (4 ≤ m 0) from propext (by rw [i4]; exact nIle (by omega) (by omega))]
    refine ⟨fun hle => main _ (fun z => ?_), fun hgt => main _ (fun z => ?_)⟩
    · rw [if_neg h1, if_pos (by omega)]
      exact ⟨fun _ => hle, fun _ => rfl⟩
    · rw [if_neg h1, if_pos (by omega), lit (m 0) 4 4 (by omega) (by omega) i4]
      omega
  · rw [lit (m 1) 1 1 (by omega) (by omega) i1] at h1
    rw [lit (m 1) 3 3 (by omega) (by omega) i3] at h3
    rw [lit (m 1) 4 4 (by omega) (by omega) i4] at h4
    rw [if_neg h1, if_neg (by omega), if_neg h3, lit (m 0) 2 2 (by omega) (by omega) i2]
  · rw [lit (m 1) 1 1 (by omega) (by omega) i1] at h1
    rw [lit (m 1) 3 3 (by omega) (by omega) i3] at h3
    rw [if_neg h1, if_neg (by omega), if_pos h3, lit (m 0) 4 4 (by omega) (by omega) i4]
  · rw [lit (m 1) 1 1 (by omega) (by omega) i1] at h1
    rw [if_pos h1, lit (m 0) 6 6 (by omega) (by omega) i6]
end MLK
