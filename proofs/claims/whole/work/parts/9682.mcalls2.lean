/-! the model's calls that answer with a number -/
def OrP (k : Nat) : Nat → Nat → Prop := fun u j => (u = 303 ∨ u = 304 ∨ u = 305 ∨ (307 ≤ u ∧ u ≤ 311)) ∧ j = 48 + k
section MCC
variable {μ σ τ σ1 : rs_Mem} {a b : Ab} {p k : Nat} {s : Ps} {c : Int32}
theorem MR.org (h : MR μ σ a) {bb : Bool} (hk : k < 12) (f : Fp (OrP k) σ τ) (hG : Gr τ) (e : rs_I τ 303 (48 + k) = b2i bb) (g : bb = true → MRt τ (48 + k) ownR false) : MR μ τ (stOrg a (upO (aOrg a) k bb)) := by
  refine ⟨hG, h.2.1.fp f (by unfold OrP; omega) (fun k => by unfold OrP; omega) (fun k => by unfold OrP; omega), ⟨fun j hj => ?_, h.2.2.1.2.tr (f.mono fun u j z => by unfold OrP at z; omega)⟩, fun q hq => (h.2.2.2 q hq).fp f (fun u j z w => by unfold InP at z; unfold OrP at w; omega)⟩
  show rs_I τ 303 (48 + j) = b2i (upO (aOrg a) k bb j) ∧ (upO (aOrg a) k bb j = true → MRt τ (48 + j) ownR false)
  by_cases ej : j = k
  · subst ej
    rw [upO_same]
    exact ⟨e, g⟩
  · rw [upO_ne ej]
    obtain ⟨x, y⟩ := h.2.2.1.1 j hj
    exact ⟨(f.I (by unfold OrP; omega)).trans x, fun z => (y z).fp f (fun u q => by unfold OrP; omega) (fun i q1 q2 => by unfold OrP; omega) (fun i q1 q2 => by unfold OrP; omega)⟩
theorem AI0_org {f : Nat → Bool} (h : AI0 a) (hf : ∀ j, (aPre a).length ≤ j → f j = false) : AI0 (stOrg a f) := ⟨h.1, hf, h.2.2⟩
theorem AI0_add {q : Int32 × Int32} (h : AI0 a) (hq : isPfx q.1 q.2) : AI0 (addPre a q) := by
  unfold addPre
  split
  · exact h
  · refine ⟨fun x hx => ?_, fun j hj => ?_, h.2.2⟩
    · rcases List.mem_append.mp hx with z | z
      · exact h.1 x z
      · rw [List.mem_singleton.mp z]; exact hq
    · have hj : (aPre a ++ [q]).length ≤ j := hj
      rw [List.length_append] at hj
      exact h.2.1 j (by omega)
theorem AI0_orig {q : Int32 × Int32} (h : AI0 a) (hq : isPfx q.1 q.2) : AI0 (stOrg (addPre a q) (upO (aOrg a) ((aPre a).idxOf q) true)) := by
  refine AI0_org (AI0_add h hq) (fun j hj => ?_)
  have hl : (aPre a).length ≤ j ∧ (aPre a).idxOf q < j := by
    unfold addPre at hj
    by_cases hm : q ∈ aPre a
    · rw [if_pos hm] at hj
      have := mem_lt hm
      omega
    · rw [if_neg hm] at hj
      have hj : (aPre a ++ [q]).length ≤ j := hj
      rw [List.length_append, List.length_singleton] at hj
      have := List.idxOf_eq_length hm
      omega
  rw [upO_ne (by omega)]
  exact h.2.1 j hl.1
theorem orig_same {q : Int32 × Int32} (h : AI0 a) (ho : aOrg a ((aPre a).idxOf q) = true) : addPre a q = a ∧ stOrg (addPre a q) (upO (aOrg a) ((aPre a).idxOf q) true) = a := by
  have hm : q ∈ aPre a := by
    by_cases hm : q ∈ aPre a
    · exact hm
    · have := h.2.1 ((aPre a).idxOf q) (by rw [List.idxOf_eq_length hm]; exact Nat.le_refl _)
      rw [this] at ho; cases ho
  have e1 : addPre a q = a := by unfold addPre; rw [if_pos hm]
  refine ⟨e1, ?_⟩
  rw [e1]
  have e2 : upO (aOrg a) ((aPre a).idxOf q) true = aOrg a := by
    funext j
    by_cases e : j = (aPre a).idxOf q
    · rw [e, upO_same, ho]
    · rw [upO_ne e]
  rw [e2]; rfl
theorem AJ_orig {x y : Int32} (h : AJ a) : AJ (opOrig a x y).2.2 := by
  unfold opOrig
  split
  · exact h
  · rename_i hx
    have hx := Classical.not_not.mp hx
    split
    · exact h
    · rename_i hf
      split
      · rename_i ho
        show AJ (addPre a (x, y))
        rw [(orig_same h.1.1 ho).1]; exact h
      · refine AJ_tAll (AI0_orig h.1.1 hx) ?_
        show (aPre (addPre a (x, y))).length ≤ 12
        unfold addPre
        have hl := h.2
        split
        · exact hl
        · rename_i hm
          show (aPre a ++ [(x, y)]).length ≤ 12
          rw [List.length_append, List.length_singleton]
          have : (aPre a).length ≠ 12 := fun z => hf ⟨hm, z⟩
          omega
theorem M_orig {x y : Int32} {Q : Int32 → rs_Mem → Prop} (h : MR σ σ a) (hJ : AJ a) (kk : ResB σ (opOrig a x y) Q) : F_Mo_originate NF 281 x y σ Q := by
  have hl := hJ.2
  have i0 : (0 : Int32) = nI 0 := by decide
  have i12 : (12 : Int32) = nI 12 := by decide
  have i48 : (48 : Int32) = nI 48 := by decide
  have b36n : ∀ c : Int32, c ≠ 0 → (opOrig a x y).1 = c → (opOrig a x y).2.2 = a → B_Mo_originate_36 NF Q 281 x y 281 c σ := fun c hc h1 h2 σ1 e1 => by
    have g := h.code e1
    exact w_f (by rw [e1, I_same]; exact hc) (doneB g e1 h1 h2 (fun z => absurd (h1.symm.trans z) hc) kk)
  unfold F_Mo_originate
  refine P_Mo_isPrefix (fun hx => v_f (by decide) ?_) (fun hx => v_t rfl (b36n 1 (by decide) (by unfold opOrig; rw [if_pos hx]) (by unfold opOrig; rw [if_pos hx])))
  have b35 : ¬ ((x, y) ∉ aPre a ∧ (aPre a).length = 12) → B_Mo_originate_35 NF Q 281 x y 281 σ := fun hno σ1 e1 => by
    have g := h.code e1
    refine w_t (by rw [e1]; exact I_same) ?_
    have hq : isPfx (x, y).1 (x, y).2 := hx
    obtain ⟨k, hk⟩ : ∃ k, k = (aPre a).idxOf (x, y) := ⟨_, rfl⟩
    -- the place is known, the prefixes are right
    have main : ∀ τ, MR σ1 τ (addPre a (x, y)) → k < 12 → ∀ x54 : Int32, x54 = ((48 : Int32) + nI k) → (vp_in x54 (NF (rs_R τ 281 24)) ∧ (∀ x57 : Int32, x57 = (rs_I τ (rs_R τ 281 24) x54.toNatClampNeg) → (vp_in x54 (NF (rs_R τ 281 24)) ∧ ∀ σ60 : rs_Mem, σ60 = rs_sI τ (rs_R τ 281 24) x54.toNatClampNeg (1 : Int32) → (vp_in x54 (NF (rs_R σ60 281 25)) ∧ ∀ σ63 : rs_Mem, σ63 = rs_sI σ60 (rs_R σ60 281 25) x54.toNatClampNeg (0 : Int32) → (vp_in x54 (NF (rs_R σ63 281 26)) ∧ ∀ σ66 : rs_Mem, σ66 = rs_sI σ63 (rs_R σ63 281 26) x54.toNatClampNeg (0 : Int32) → (vp_in x54 (NF (rs_R σ66 281 28)) ∧ ∀ σ69 : rs_Mem, σ69 = rs_sI σ66 (rs_R σ66 281 28) x54.toNatClampNeg (7 : Int32) → (vp_in x54 (NF (rs_R σ69 281 29)) ∧ ∀ σ72 : rs_Mem, σ72 = rs_sI σ69 (rs_R σ69 281 29) x54.toNatClampNeg (-1 : Int32) → (vp_in x54 (NF (rs_R σ72 281 30)) ∧ ∀ σ75 : rs_Mem, σ75 = rs_sI σ72 (rs_R σ72 281 30) x54.toNatClampNeg (100 : Int32) → (vp_in x54 (NF (rs_R σ75 281 31)) ∧ ∀ σ78 : rs_Mem, σ78 = rs_sI σ75 (rs_R σ75 281 31) x54.toNatClampNeg (0 : Int32) → (vp_in x54 (NF (rs_R σ78 281 32)) ∧ ∀ σ81 : rs_Mem, σ81 = rs_sI σ78 (rs_R σ78 281 32) x54.toNatClampNeg (0 : Int32) → (F_Mo_tell NF 281 σ81 (fun σ82 => ((¬ (x57 = 0) → (Q (0 : Int32) σ82)) ∧ (x57 = 0 → (Q (1 : Int32) σ82))))))))))))))) := fun τ g1 hk12 x54 ex => by
      rw [i48, nI_add] at ex
      subst ex
      have v61 : vp_in (nI (48 + k)) 61 := vpn (by omega) (by omega)
      have eo : aOrg (addPre a (x, y)) = aOrg a := by unfold addPre; split <;> rfl
      have ho := (g1.2.2.1.1 k hk12).1
      rw [eo] at ho
      rw [gr_281_24 g1.1, nf_303, nIc (by omega), ho]
      refine ⟨v61, fun x57 ex57 => ⟨v61, fun σ2 e2 => ?_⟩⟩
      subst ex57
      have hG2 : Gr σ2 := e2 ▸ g1.1
      rw [gr_281_25 hG2, nf_304]
      refine ⟨v61, fun σ3 e3 => ?_⟩
      have hG3 : Gr σ3 := e3 ▸ hG2
      rw [gr_281_26 hG3, nf_305]
      refine ⟨v61, fun σ4 e4 => ?_⟩
      have hG4 : Gr σ4 := e4 ▸ hG3
      rw [gr_281_28 hG4, nf_307]
      refine ⟨v61, fun σ5 e5 => ?_⟩
      have hG5 : Gr σ5 := e5 ▸ hG4
      rw [gr_281_29 hG5, nf_308]
      refine ⟨v61, fun σ6 e6 => ?_⟩
      have hG6 : Gr σ6 := e6 ▸ hG5
      rw [gr_281_30 hG6, nf_309]
      refine ⟨v61, fun σ7 e7 => ?_⟩
      have hG7 : Gr σ7 := e7 ▸ hG6
      rw [gr_281_31 hG7, nf_310]
      refine ⟨v61, fun σ8 e8 => ?_⟩
      have hG8 : Gr σ8 := e8 ▸ hG7
      rw [gr_281_32 hG8, nf_311]
      refine ⟨v61, fun σ9 e9 => ?_⟩
      have hG9 : Gr σ9 := e9 ▸ hG8
      have f9 : Fp (OrP k) τ σ9 := by
        rw [e9, e8, e7, e6, e5, e4, e3, e2]
        exact (((((((Fp.rf.sI (by unfold OrP; omega)).sI (by unfold OrP; omega)).sI (by unfold OrP; omega)).sI (by unfold OrP; omega)).sI (by unfold OrP; omega)).sI (by unfold OrP; omega)).sI (by unfold OrP; omega)).sI (by unfold OrP; omega)
      have g9 := g1.org (bb := true) hk12 f9 hG9 (by rw [e9, e8, e7, e6, e5, e4, e3, e2]; simp [I_I]; rfl) (fun _ => ⟨by rw [e9, e8, e7, e6, e5, e4, e3]; simp [I_I]; rfl, by rw [e9, e8, e7, e6, e5, e4]; simp [I_I]; rfl, Ar_nil, by rw [e9, e8, e7, e6, e5]; simp [I_I]; rfl, by rw [e9, e8, e7, e6]; simp [I_I]; rfl, by rw [e9, e8, e7]; simp [I_I]; rfl, by rw [e9, e8]; simp [I_I]; rfl, by rw [e9]; simp [I_I]; rfl, Ar_nil, Nat.zero_le _, Nat.zero_le _⟩)
      rw [eo] at g9
      have hA : AI0 (stOrg (addPre a (x, y)) (upO (aOrg a) k true)) := by rw [hk]; exact AI0_orig hJ.1.1 hq
      refine P_Mo_tell g9 (AI0_AW hA) (fun ρ r1 => ?_)
      by_cases hb : aOrg a k = true
      · have hb' := hb
        rw [hk] at hb'
        obtain ⟨s1, s2⟩ := orig_same hJ.1.1 hb'
        rw [hk, s2, tAll_id hJ.1.2] at r1
        have eop : opOrig a x y = (0, 0, a) := by
          unfold opOrig
          rw [if_neg (fun z => z hx), if_neg hno, if_pos hb', s1]
        refine v_f (by rw [hb]; decide) (doneB r1 e1 (by rw [eop]) (by rw [eop]) (fun _ => by rw [eop]; exact ⟨fun _ => rfl, fun z => absurd rfl z⟩) kk)
      · have hb0 : aOrg a k = false := by cases hc : aOrg a k with
          | true => exact absurd hc hb
          | false => rfl
        have eop : opOrig a x y = (0, 1, tAll 5 (stOrg (addPre a (x, y)) (upO (aOrg a) k true))) := by
          unfold opOrig
          rw [if_neg (fun z => z hx), if_neg hno, if_neg (by rw [← hk]; exact hb), hk]
        exact v_t (by rw [hb0]; rfl) (doneB r1 e1 (by rw [eop]) (by rw [eop]) (fun _ => by rw [eop]; exact ⟨fun z => absurd z (by decide), fun _ => rfl⟩) kk)
    refine P_Mo_learned (q := (x, y)) g (fun hm => ?_) (fun hm => ?_) (fun hm τ g1 g2 => ?_)
    · have : (aPre a).length ≠ 12 := fun z => hno ⟨hm, z⟩
      omega
    · have := mem_lt hm
      rw [← hk]
      refine main σ1 ?_ (by omega)
      unfold addPre; rw [if_pos hm]; exact g
    · have e := List.idxOf_eq_length hm
      have : (aPre a).length ≠ 12 := fun z => hno ⟨hm, z⟩
      rw [← e, ← hk]
      refine main τ ?_ (by omega)
      unfold addPre; rw [if_neg hm]; exact g1
  refine P_Mo_find h.1 h.2.1 (fun hm => w_t (by rw [i0, nIle (by omega) (by have := mem_lt hm; omega)]; omega) (b35 (fun z => z.1 hm))) (fun hm => w_f (by decide) ?_)
  rw [h.2.1.1, i12, nIeq (by omega) (by omega)]
  exact ⟨fun z => b35 (fun y => z y.2), fun z => b36n 2 (by decide) (by unfold opOrig; rw [if_neg (fun q => q hx), if_pos ⟨hm, z⟩]) (by unfold opOrig; rw [if_neg (fun q => q hx), if_pos ⟨hm, z⟩])⟩
theorem AI0_retr (h : AI0 a) : AI0 (stOrg a (upO (aOrg a) k false)) := AI0_org h (fun j hj => by
  by_cases e : j = k
  · rw [e, upO_same]
  · rw [upO_ne e]; exact h.2.1 j hj)
theorem M_retr {x y : Int32} {Q : Int32 → rs_Mem → Prop} (h : MR σ σ a) (hJ : AJ a) (kk : ResB σ (opRetr a x y) Q) : F_Mo_retract NF 281 x y σ Q := by
  have hl := hJ.2
  have i48 : (48 : Int32) = nI 48 := by decide
  unfold F_Mo_retract
  refine P_Mo_isPrefix (fun hx => w_f (by decide) (fun σ1 e1 => ?_)) (fun hx => w_t rfl (fun σ1 e1 => ?_))
  · have g := h.code e1
    refine v_t (by rw [e1]; exact I_same) (P_Mo_find g.1 g.2.1 (fun hm => ?_) (fun hm => ?_))
    · have hk := mem_lt hm
      generalize hK : (aPre a).idxOf (x, y) = k at hk
      have hk12 : k < 12 := by omega
      unfold B_Mo_retract_34
      refine w_f (nI_pos (by omega)) ?_
      rw [i48, nI_add, gr_281_24 g.1, nf_303, nIc (by omega), (g.2.2.1.1 k hk12).1]
      have v61 : vp_in (nI (48 + k)) 61 := vpn (by omega) (by omega)
      refine ⟨v61, fun hz => ⟨v61, fun σ2 e2 => ?_⟩, fun hz => ?_⟩
      · have ho : aOrg a k = true := by
          cases hc : aOrg a k with
          | true => rfl
          | false => rw [hc] at hz; exact absurd rfl hz
        have eop : opRetr a x y = (0, 1, tAll 5 (stOrg a (upO (aOrg a) k false))) := by
          unfold opRetr
          rw [if_neg (fun z => z hx), if_neg (fun z => z.elim (fun q => q hm) (fun q => by rw [hK, ho] at q; cases q)), hK]
        have f2 : Fp (OrP k) σ1 σ2 := by rw [e2]; exact Fp.rf.sI (by unfold OrP; omega)
        have g2 := g.org (bb := false) hk12 f2 (e2 ▸ g.1) (by rw [e2]; exact I_same) (fun z => by cases z)
        exact P_Mo_tell g2 (AI0_AW (AI0_retr hJ.1.1)) (fun ρ r1 => doneB r1 e1 (by rw [eop]) (by rw [eop]) (fun _ => by rw [eop]; exact ⟨fun z => absurd z (by decide), fun _ => rfl⟩) kk)
      · have eop : opRetr a x y = (0, 0, a) := by
          unfold opRetr
          rw [if_neg (fun z => z hx), if_pos (Or.inr (by rw [hK]; exact b2i_ne.mp hz))]
        exact doneB g e1 (by rw [eop]) (by rw [eop]) (fun _ => by rw [eop]; exact ⟨fun _ => rfl, fun z => absurd rfl z⟩) kk
    · have eop : opRetr a x y = (0, 0, a) := by
        unfold opRetr
        rw [if_neg (fun z => z hx), if_pos (Or.inl hm)]
      exact w_t (by decide) (doneB g e1 (by rw [eop]) (by rw [eop]) (fun _ => by rw [eop]; exact ⟨fun _ => rfl, fun z => absurd rfl z⟩) kk)
  · have g := h.code e1
    have eop : opRetr a x y = (1, 0, a) := by unfold opRetr; rw [if_pos hx]
    exact v_f (by rw [e1, I_same]; decide) (w_t (by decide) (doneB g e1 (by rw [eop]) (by rw [eop]) (fun z => by rw [eop] at z; exact absurd z n10) kk))
theorem AJ_retr {x y : Int32} (h : AJ a) : AJ (opRetr a x y).2.2 := by
  unfold opRetr
  split
  · exact h
  · split
    · exact h
    · exact AJ_tAll (AI0_retr h.1.1) h.2
theorem okS_open (h : okS s) (h0 : pSt s = 0) : okS (openS s) := by
  have hno := h.2.2.2.2.1 (by rw [h0]; decide)
  unfold openS
  refine okS_send ⟨okC_of h.1 (by simp only [pPad, sHt, sSt]) (by simp only [pMl, sHt, sSt]) (by simp only [pMa, sHt, sSt]) (by simp only [pRul, sHt, sSt]) (by simp only [pPen, sHt, sSt]) (by simp only [pNet, sHt, sSt]), ?_, okI_of h.2.2.1 (by simp only [pInb, sHt, sSt]), okO_of h.2.2.2.1 (by simp only [pOut, sHt, sSt]), okR_of h.2.2.2.2 (by simp only [pInc, sHt, sSt]) (by simp only [pRole, sHt, sSt]) (fun _ => hno)⟩ (fun y hy => by simp only [List.mem_cons, List.not_mem_nil, or_false] at hy; rcases hy with rfl | rfl | rfl | rfl | rfl | rfl <;> decide)
  have e1 : pHt (sHt (sSt s 1) 8) = 8 := by simp only [pHt, sHt, sSt]
  have e2 : pHo (sHt (sSt s 1) 8) = pHo s := by simp only [pHo, sHt, sSt]
  have e3 : pSt (sHt (sSt s 1) 8) = 1 := by simp only [pSt, sHt, sSt]
  have e5 : pId (sHt (sSt s 1) 8) = pId s := by simp only [pId, sHt, sSt]
  unfold okT
  rw [e1, e2, e3, e5]
  exact ⟨h.2.1.1, fun _ => by decide, fun _ _ => by decide, fun z => absurd z (by decide), h.2.1.2.2.2.2.1, by decide⟩
theorem AJ_start {x : Int32} (h : AJ a) : AJ (opStart a x).2.2 := by
  unfold opStart
  split
  · exact h
  · rename_i hx
    obtain ⟨p, hp, rfl⟩ := okP_of (Classical.not_not.mp hx)
    rw [tN_nI (by omega)]
    split
    · exact h
    · rename_i h0
      exact AJ_tAll (AI0_pe h.1.1 (okS_open (h.1.1.2.2 p hp) (Classical.not_not.mp h0))) h.2
theorem AJ_stop {x : Int32} (h : AJ a) : AJ (opStop a x).2.2 := by
  unfold opStop
  split
  · exact h
  · rename_i hx
    obtain ⟨p, hp, rfl⟩ := okP_of (Classical.not_not.mp hx)
    rw [tN_nI (by omega)]
    split
    · exact h
    · exact AJ_tAll (AI0_pe h.1.1 (okS_end (h.1.1.2.2 p hp) (by decide) (by decide))) h.2
theorem M_start {x : Int32} {Q : Int32 → rs_Mem → Prop} (h : MR σ σ a) (hJ : AJ a) (kk : ResB σ (opStart a x) Q) : F_Mo_start NF 281 x σ Q := by
  unfold F_Mo_start
  refine P_Mo_isPeer (fun hx => w_f (by decide) (fun σ1 e1 => ?_)) (fun hx => w_t rfl (fun σ1 e1 => ?_))
  · obtain ⟨p, hp, rfl⟩ := okP_of hx
    have v4 : vp_in (nI p) 4 := vpn hp (by omega)
    have g := h.code e1
    refine v_t (by rw [e1]; exact I_same) ?_
    obtain ⟨a1, a2, a3, a4, a5, a6, a7, a8, a9, a10⟩ := (g.2.2.2 p hp).1
    rw [gr_281_3 g.1, nf_284, nIc (by omega), a3]
    refine ⟨v4, fun h0 => ⟨v4, fun σ2 e2 => ?_⟩, fun h0 => ?_⟩
    · have eop : opStart a (nI p) = (0, 1, tAll 5 (stPe a p (openS (aPe a p)))) := by
        unfold opStart; rw [if_neg (fun q => q hx), tN_nI (by omega), if_neg (fun q => q h0)]
      have hG2 : Gr σ2 := e2 ▸ g.1
      rw [gr_281_4 hG2, nf_285]
      refine ⟨v4, fun σ3 e3 => ?_⟩
      have f3 : Fp (CfP p) σ1 σ3 := by rw [e3, e2]; exact (Fp.rf.sI (by unfold CfP; omega)).sI (by unfold CfP; omega)
      have hs3 : MPe σ3 p (sHt (sSt (aPe a p) 1) 8) := by
        refine (g.2.2.2 p hp).cf f3 ⟨?_, ?_, ?_, ?_, ?_, ?_, ?_, ?_, ?_, ?_⟩ (by simp only [pRul, sHt, sSt]) (by simp only [pInb, sHt, sSt]) (by simp only [pOut, sHt, sSt]) (by simp only [pInc, sHt, sSt]) (by simp only [pPen, sHt, sSt]) (by simp only [pDmp, sHt, sSt]) (by simp only [pTol, sHt, sSt]) (Or.inl (by simp only [pRole, sHt, sSt]))
        · rw [e3, e2, I_ne (by omega), I_ne (by omega)]; exact a1
        · rw [e3, e2, I_ne (by omega), I_ne (by omega)]; exact a2
        · rw [e3, e2, I_ne (by omega)]; exact I_same
        · rw [e3]; exact I_same
        · rw [e3, e2, I_ne (by omega), I_ne (by omega)]; exact a5
        · rw [e3, e2, I_ne (by omega), I_ne (by omega)]; exact a6
        · rw [e3, e2, I_ne (by omega), I_ne (by omega)]; exact a7
        · rw [e3, e2, I_ne (by omega), I_ne (by omega)]; exact a8
        · rw [e3, e2, I_ne (by omega), I_ne (by omega)]; exact a9
        · rw [e3, e2, I_ne (by omega), I_ne (by omega)]; exact a10
      refine P_Mo_begin (by rw [e3]; exact hG2) (fun τ1 b1 b2 b3 => P_Mo_add b3 b1 (by simp) (fun τ2 c1 c2 c3 => P_Mo_add c3 c1 (by simp) (fun τ3 d1 d2 d3 => P_Mo_add d3 d1 (by simp) (fun τ4 i1 i2 i3 => P_Mo_add i3 i1 (by simp) (fun τ5 j1 j2 j3 => ?_)))))
      have fm : Fp MkP σ3 τ5 := (((b2.tr c2).tr d2).tr i2).tr j2
      have j1' : MK τ5 (0 :: [1, 4, 100, 9, 7]) := by simpa using j1
      refine P_Mo_send j3 hp (hs3.mk fm) j1' (fun τ6 t1 t2 t3 => ?_)
      have g6 : MR σ1 τ6 (stPe a p (openS (aPe a p))) := g.pe (((f3.mono fun u j z => Or.inl (cf_in z)).tr (fm.mono fun u j z => sd_in (Or.inl z))).tr (t2.mono fun u j z => sd_in z)) t3 t1 hp
      exact P_Mo_tell g6 (AI0_AW (AI0_pe hJ.1.1 (okS_open (hJ.1.1.2.2 p hp) h0))) (fun ρ r1 => doneB r1 e1 (by rw [eop]) (by rw [eop]) (fun _ => by rw [eop]; exact ⟨fun z => absurd z (by decide), fun _ => rfl⟩) kk)
    · have eop : opStart a (nI p) = (0, 0, a) := by
        unfold opStart; rw [if_neg (fun q => q hx), tN_nI (by omega), if_pos h0]
      exact doneB g e1 (by rw [eop]) (by rw [eop]) (fun _ => by rw [eop]; exact ⟨fun _ => rfl, fun z => absurd rfl z⟩) kk
  · have g := h.code e1
    have eop : opStart a x = (1, 0, a) := by unfold opStart; rw [if_pos hx]
    exact v_f (by rw [e1, I_same]; decide) (doneB g e1 (by rw [eop]) (by rw [eop]) (fun z => by rw [eop] at z; exact absurd z n10) kk)
theorem M_stop {x : Int32} {Q : Int32 → rs_Mem → Prop} (h : MR σ σ a) (hJ : AJ a) (kk : ResB σ (opStop a x) Q) : F_Mo_stop NF 281 x σ Q := by
  unfold F_Mo_stop
  refine P_Mo_isPeer (fun hx => w_f (by decide) (fun σ1 e1 => ?_)) (fun hx => w_t rfl (fun σ1 e1 => ?_))
  · obtain ⟨p, hp, rfl⟩ := okP_of hx
    have v4 : vp_in (nI p) 4 := vpn hp (by omega)
    have g := h.code e1
    refine v_t (by rw [e1]; exact I_same) ?_
    rw [gr_281_3 g.1, nf_284, nIc (by omega), (g.2.2.2 p hp).1.2.2.1]
    refine ⟨v4, fun h0 => ?_, fun h0 => ?_⟩
    · have eop : opStop a (nI p) = (0, 1, tAll 5 (stPe a p (endS (aPe a p) 6 2))) := by
        unfold opStop; rw [if_neg (fun q => q hx), tN_nI (by omega), if_neg h0]
      exact P_Mo_endA g hp (fun τ r => P_Mo_tell r (AI0_AW (AI0_pe hJ.1.1 (okS_end (hJ.1.1.2.2 p hp) (by decide) (by decide)))) (fun ρ r1 => doneB r1 e1 (by rw [eop]) (by rw [eop]) (fun _ => by rw [eop]; exact ⟨fun z => absurd z (by decide), fun _ => rfl⟩) kk))
    · have eop : opStop a (nI p) = (0, 0, a) := by
        unfold opStop; rw [if_neg (fun q => q hx), tN_nI (by omega), if_pos h0]
      exact doneB g e1 (by rw [eop]) (by rw [eop]) (fun _ => by rw [eop]; exact ⟨fun _ => rfl, fun z => absurd rfl z⟩) kk
  · have g := h.code e1
    have eop : opStop a x = (1, 0, a) := by unfold opStop; rw [if_pos hx]
    exact v_f (by rw [e1, I_same]; decide) (doneB g e1 (by rw [eop]) (by rw [eop]) (fun z => by rw [eop] at z; exact absurd z n10) kk)
end MCC
