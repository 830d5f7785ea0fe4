/-! bytes come in -/
def byt (x : Int64) (i : Nat) : Nat := ((x.toBitVec >>> (8 * i)) &&& 255#64).toNat
theorem byt_lt {x : Int64} {i : Nat} : byt x i < 256 := by
  unfold byt
  rw [BitVec.toNat_and]
  exact Nat.and_lt_two_pow (n := 8) _ (by decide)
theorem bit255 : ∀ j, j < 32 → (255#64).getLsbD j = (255#32).getLsbD j := by decide +kernel
theorem bit255h : ∀ j, j < 32 → 8 ≤ j → (255#32).getLsbD j = false := by decide +kernel
theorem byt_nI {x : Int64} {i : Nat} : (nI (byt x i)).toBitVec = ((x.toBitVec >>> (8 * i)) &&& 255#64).setWidth 32 := by
  show BitVec.ofNat 32 (byt x i) = _
  unfold byt
  exact BitVec.ofNat_toNat 32 _
theorem byt_C {x : Int64} {i : Nat} (hi : i < 8) : ((((x.toUInt64 >>> (((8 : Int32) * nI i).toInt64.toUInt64 &&& Int64.toUInt64 63)).toInt64).toInt32) &&& (255 : Int32)) = nI (byt x i) := by
  have hs : (((8 : Int32) * nI i).toInt64.toUInt64 &&& Int64.toUInt64 63).toBitVec % 64 = BitVec.ofNat 64 (8 * i) := (by decide +kernel : ∀ i, i < 8 → (((8 : Int32) * nI i).toInt64.toUInt64 &&& Int64.toUInt64 63).toBitVec % 64 = BitVec.ofNat 64 (8 * i)) i hi
  apply Int32.toBitVec_inj.mp
  rw [byt_nI]
  show (BitVec.signExtend 32 (x.toBitVec >>> ((((8 : Int32) * nI i).toInt64.toUInt64 &&& Int64.toUInt64 63).toBitVec % 64))) &&& 255#32 = _
  rw [hs, BitVec.ushiftRight_eq', BitVec.toNat_ofNat, Nat.mod_eq_of_lt (by omega), BitVec.signExtend_eq_setWidth_of_le _ (by omega)]
  apply BitVec.eq_of_getLsbD_eq
  intro j hj
  rw [BitVec.getLsbD_and, BitVec.getLsbD_setWidth, BitVec.getLsbD_setWidth, BitVec.getLsbD_and, bit255 j hj, Bool.and_assoc]
theorem byt_M {x : Int64} {i : Nat} (hi : i < 8) : ((x >>> (((8 : Int32) * nI i).toInt64 &&& 63)) &&& (255 : Int64)).toInt32 = nI (byt x i) := by
  have hs : ((((8 : Int32) * nI i).toInt64 &&& 63).toBitVec.smod 64) = BitVec.ofNat 64 (8 * i) := (by decide +kernel : ∀ i, i < 8 → ((((8 : Int32) * nI i).toInt64 &&& 63).toBitVec.smod 64) = BitVec.ofNat 64 (8 * i)) i hi
  apply Int32.toBitVec_inj.mp
  rw [byt_nI]
  show BitVec.signExtend 32 ((x.toBitVec.sshiftRight' ((((8 : Int32) * nI i).toInt64 &&& 63).toBitVec.smod 64)) &&& 255#64) = _
  rw [hs, BitVec.sshiftRight_eq', BitVec.toNat_ofNat, Nat.mod_eq_of_lt (by omega), BitVec.signExtend_eq_setWidth_of_le _ (by omega)]
  apply BitVec.eq_of_getLsbD_eq
  intro j hj
  rw [BitVec.getLsbD_setWidth, BitVec.getLsbD_setWidth, BitVec.getLsbD_and, BitVec.getLsbD_and, bit255 j hj, BitVec.getLsbD_sshiftRight, BitVec.getLsbD_ushiftRight]
  by_cases h8 : 8 ≤ j
  · rw [bit255h j hj h8]; simp
  · have h1 : decide (64 ≤ j) = false := decide_eq_false (by omega)
    rw [h1, if_pos (by omega)]; rfl
/-- what has come, with one byte more -/
def inL (a : Ab) (p x : Nat) : List Int32 := pInb (aPe a p) ++ [nI x]
noncomputable def comeC (a : Ab) (p x : Nat) : Ab :=
  if pSt (aPe a p) = 0 then a
  else if mOf (inL a p x) 0 < 2 ∨ 60 < mOf (inL a p x) 0 ∨ (inL a p x).length = mOf (inL a p x) 0 then tAll 5 (lookA (stPe a p (sInb (aPe a p) [])) p (mOf (inL a p x)))
  else stPe a p (sInb (aPe a p) (inL a p x))
noncomputable def comeM (a : Ab) (p x : Nat) : Ab :=
  if pSt (aPe a p) = 0 then a
  else if (inL a p x).length = 1 then (if x < 2 ∨ 60 < x then stPe a p (endS (sInb (aPe a p) (inL a p x)) 1 2) else stPe a p (sInb (aPe a p) (inL a p x)))
  else if (inL a p x).length = mOf (inL a p x) 0 then tAll 5 (lookA (stPe a p (sInb (aPe a p) [])) p (mOf (inL a p x)))
  else stPe a p (sInb (aPe a p) (inL a p x))
noncomputable def fdC (p : Nat) (y : Int64) : Nat → Ab → Ab
  | 0, a => a
  | i + 1, a => fdC p y i (comeC a p (byt y i))
noncomputable def fdM (p : Nat) (y : Int64) : Nat → Ab → Ab
  | 0, a => a
  | i + 1, a => fdM p y i (comeM a p (byt y i))
def bytL (L : List Int32) : Prop := ∀ x ∈ L, ∃ b, b < 256 ∧ x = nI b
theorem mOf_at {L : List Int32} (h : bytL L) {k : Nat} (hk : k < L.length) : L[k] = nI (mOf L k) ∧ mOf L k < 256 := by
  obtain ⟨b, hb, e⟩ := h _ (List.getElem_mem hk)
  have : mOf L k = b := by
    unfold mOf
    rw [List.getD_eq_getElem?_getD, List.getElem?_eq_getElem hk]
    show (L[k]).toNatClampNeg = b
    rw [e]; exact nIc (by omega)
  rw [this]; exact ⟨e, hb⟩
theorem mOf_lt {L : List Int32} (h : bytL L) (k : Nat) : mOf L k < 256 := by
  by_cases hk : k < L.length
  · exact (mOf_at h hk).2
  · unfold mOf
    rw [List.getD_eq_getElem?_getD, List.getElem?_eq_none (by omega)]
    decide
theorem inL_byt {a : Ab} {p x : Nat} (h : okI (aPe a p)) (hx : x < 256) : bytL (inL a p x) := fun y hy => by
  unfold inL at hy
  rcases List.mem_append.mp hy with z | z
  · exact h.1 y z
  · exact ⟨x, hx, List.mem_singleton.mp z⟩
theorem inL_len {a : Ab} {p x : Nat} : (inL a p x).length = (pInb (aPe a p)).length + 1 := by unfold inL; rw [List.length_append]; rfl
theorem inL_get {a : Ab} {p x k : Nat} (hk : k < (inL a p x).length) (h : k < (pInb (aPe a p)).length) : (inL a p x)[k] = (pInb (aPe a p))[k] := List.getElem_append_left h
theorem inL_last {a : Ab} {p x : Nat} (hk : (pInb (aPe a p)).length < (inL a p x).length) : (inL a p x)[(pInb (aPe a p)).length] = nI x := by
  show (pInb (aPe a p) ++ [nI x])[(pInb (aPe a p)).length]'(by rw [List.length_append]; simp) = nI x
  simp
theorem inL_0 {a : Ab} {p x : Nat} (hx : x < 256) : mOf (inL a p x) 0 = if pInb (aPe a p) = [] then x else mOf (pInb (aPe a p)) 0 := by
  unfold inL mOf
  cases pInb (aPe a p) with
  | nil =>
    rw [if_pos rfl]
    show (nI x).toNatClampNeg = x
    exact nIc (by omega)
  | cons y t =>
    rw [if_neg (by simp)]
    rfl
section FE
variable {μ σ : rs_Mem} {a b : Ab} {p x : Nat}
theorem ii_Inb {s : Ps} {l : List Int32} : pInb (sInb s l) = l := by simp only [pInb, sInb]
theorem ii_St {s : Ps} {l : List Int32} : pSt (sInb s l) = pSt s := by simp only [pSt, sInb]
theorem chS_inb {s : Ps} {l : List Int32} : chS s (sInb s l) := ⟨by simp only [pRole, sInb], by simp only [pRul, sInb], by simp only [pDmp, sInb], by simp only [pInc, sInb], by simp only [pId, sInb]⟩
theorem AI0_inb0 (h : AI0 a) (hp : p < 4) : AI0 (stPe a p (sInb (aPe a p) [])) := AI0_pe h (okS_Inb (h.2.2 p hp) (okI_nil ii_Inb))
theorem look_in (h : AI0 a) (hl : (aPre a).length ≤ 12) (hp : p < 4) (h0 : pSt (aPe a p) ≠ 0) (hx : x < 256) : AI0 (lookA (stPe a p (sInb (aPe a p) [])) p (mOf (inL a p x))) ∧ (aPre (lookA (stPe a p (sInb (aPe a p) [])) p (mOf (inL a p x)))).length ≤ 12 :=
  look_AI0 (AI0_inb0 h hp) hl hp (by rw [stPe_at, ii_St]; exact h0) (mOf_lt (inL_byt (h.2.2 p hp).2.2.1 hx))
theorem okI_more (h : AI0 a) (hp : p < 4) (hx : x < 256) (h2 : ¬ (mOf (inL a p x) 0 < 2 ∨ 60 < mOf (inL a p x) 0 ∨ (inL a p x).length = mOf (inL a p x) 0)) : okI (sInb (aPe a p) (inL a p x)) := by
  have hi := (h.2.2 p hp).2.2.1
  refine ⟨fun y hy => by rw [ii_Inb] at hy; exact inL_byt hi hx y hy, Or.inr ?_⟩
  rw [ii_Inb]
  refine ⟨by omega, by omega, ?_⟩
  rw [inL_len] at h2 ⊢
  rw [inL_0 hx] at h2 ⊢
  rcases hi.2 with e | ⟨q1, q2, q3⟩
  · rw [if_pos e] at h2 ⊢
    rw [e] at h2 ⊢
    simp only [List.length_nil] at h2 ⊢
    omega
  · by_cases e : pInb (aPe a p) = []
    · rw [if_pos e] at h2 ⊢
      rw [e] at h2 ⊢
      simp only [List.length_nil] at h2 ⊢
      omega
    · rw [if_neg e] at h2 ⊢
      omega
theorem AJ_comeC (h : AJ a) (hp : p < 4) (hx : x < 256) : AJ (comeC a p x) := by
  unfold comeC
  split
  · exact h
  · rename_i h0
    split
    · obtain ⟨g1, g2⟩ := look_in h.1.1 h.2 hp h0 hx
      exact AJ_tAll g1 g2
    · rename_i h2
      refine ⟨⟨AI0_pe h.1.1 (okS_Inb (h.1.1.2.2 p hp) (okI_more h.1.1 hp hx h2)), UTD_pe h.1.2 hp (fun k => Or.inl (by rw [stPe_at]; exact chS_inb)) (fun z => ⟨by rw [ii_St] at z; exact z, by simp only [pTol, sInb], by simp only [pRole, sInb], by simp only [pPad, sInb], by simp only [pMl, sInb], by simp only [pMa, sInb]⟩)⟩, h.2⟩
theorem end_inb {s : Ps} {l l' : List Int32} {c d : Int32} : endS (sInb s l) c d = endS (sInb s l') c d := by
  unfold endS sendS
  have e1 : pOut (sInb s l) = pOut s := by simp only [pOut, sInb]
  have e2 : pOut (sInb s l') = pOut s := by simp only [pOut, sInb]
  rw [e1, e2]
  split
  · simp only [closeS, sOut, sTol, sInc, sInb, sId, sHo, sKt, sHt, sSt]
  · simp only [closeS, sOut, sTol, sInc, sInb, sId, sHo, sKt, sHt, sSt]
theorem comeC_idle (h : pSt (aPe a p) = 0) : comeC a p x = a := by unfold comeC; rw [if_pos h]
theorem comeM_idle (h : pSt (aPe a p) = 0) : comeM a p x = a := by unfold comeM; rw [if_pos h]
theorem fdC_idle {y : Int64} : ∀ (i : Nat) (a : Ab), pSt (aPe a p) = 0 → fdC p y i a = a
  | 0, _, _ => rfl
  | i + 1, a, h => by
    unfold fdC
    rw [comeC_idle h]
    exact fdC_idle i a h
theorem fdM_idle {y : Int64} : ∀ (i : Nat) (a : Ab), pSt (aPe a p) = 0 → fdM p y i a = a
  | 0, _, _ => rfl
  | i + 1, a, h => by
    unfold fdM
    rw [comeM_idle h]
    exact fdM_idle i a h
/-- one byte: the same, or the model's end that is told later -/
theorem come_eq (h : AJ a) (hp : p < 4) (hx : x < 256) : comeM a p x = comeC a p x ∨ (pSt (aPe (comeM a p x) p) = 0 ∧ comeC a p x = tAll 5 (comeM a p x)) := by
  by_cases h0 : pSt (aPe a p) = 0
  · exact Or.inl (by rw [comeM_idle h0, comeC_idle h0])
  · have hi := (h.1.1.2.2 p hp).2.2.1
    have e0 := inL_0 (a := a) (p := p) hx
    have el := inL_len (a := a) (p := p) (x := x)
    unfold comeM comeC
    rw [if_neg h0, if_neg h0]
    rcases hi.2 with e | ⟨q1, q2, q3⟩
    · rw [if_pos e] at e0
      rw [e] at el
      have el : (inL a p x).length = 1 := el
      rw [if_pos el, el, e0]
      by_cases hb : x < 2 ∨ 60 < x
      · rw [if_pos hb, if_pos (by omega)]
        refine Or.inr ⟨?_, ?_⟩
        · rw [stPe_at]; unfold endS; exact cl_St
        · unfold lookA
          rw [e0, if_pos hb, stPe_at, stPe_self, end_inb]
      · rw [if_neg hb, if_neg (by omega)]
        exact Or.inl rfl
    · by_cases e : pInb (aPe a p) = []
      · rw [if_pos e] at e0
        rw [e] at el q3 q1
        have : mOf ([] : List Int32) 0 = 0 := by decide
        omega
      · rw [if_neg e] at e0
        have hl : (pInb (aPe a p)).length ≠ 0 := fun z => e (List.eq_nil_of_length_eq_zero z)
        rw [if_neg (by omega), e0]
        left
        by_cases hf : (inL a p x).length = mOf (pInb (aPe a p)) 0
        · rw [if_pos hf, if_pos (by omega)]
        · rw [if_neg hf, if_neg (by omega)]
theorem fd_eq {y : Int64} : ∀ (i : Nat) (a : Ab), AJ a → p < 4 → tAll 5 (fdM p y i a) = fdC p y i a
  | 0, a, h, _ => tAll_id h.1.2
  | i + 1, a, h, hp => by
    have hc := AJ_comeC (x := byt y i) h hp byt_lt
    unfold fdM fdC
    rcases come_eq (x := byt y i) h hp byt_lt with e | ⟨e1, e2⟩
    · rw [e]; exact fd_eq i _ hc hp
    · rw [fdM_idle i _ e1, e2, fdC_idle i _ (idle_tAll 5 _ e1)]
theorem P_Pe_takeByte {Q : Int32 → rs_Mem → Prop} (h : CR μ σ a) (hA : AI0 a) (hp : p < 4) (hx : x < 256) (k0 : pSt (aPe a p) = 0 → Q 0 σ)
    (k1 : pSt (aPe a p) ≠ 0 → (mOf (inL a p x) 0 < 2 ∨ 60 < mOf (inL a p x) 0 ∨ (inL a p x).length = mOf (inL a p x) 0) → ∀ τ, CR μ τ (stPe a p (sInb (aPe a p) (inL a p x))) → Q 1 τ)
    (k2 : pSt (aPe a p) ≠ 0 → ¬ (mOf (inL a p x) 0 < 2 ∨ 60 < mOf (inL a p x) 0 ∨ (inL a p x).length = mOf (inL a p x) 0) → ∀ τ, CR μ τ (stPe a p (sInb (aPe a p) (inL a p x))) → Q 0 τ) : F_Pe_takeByte NF (pb p) (nI x) σ Q := by
  have hpb : 29 ≤ pb p := by unfold pb; omega
  have i2 : (2 : Int32) = nI 2 := by decide
  have i60 : (60 : Int32) = nI 60 := by decide
  have t0 : (0 : Int32).toNatClampNeg = 0 := by decide
  have hs := h.2.2.2 p hp
  have hi := (hA.2.2 p hp).2.2.1
  obtain ⟨c1, c2, c3⟩ := hs.2.1
  have hlt : (pInb (aPe a p)).length < 60 := by
    rcases hi.2 with e | ⟨q1, q2, q3⟩
    · rw [e]; decide
    · omega
  have hb := inL_byt (x := x) hi hx
  have el := inL_len (a := a) (p := p) (x := x)
  obtain ⟨m0, m0b⟩ := mOf_at hb (k := 0) (by omega)
  unfold F_Pe_takeByte
  rw [hs.1.2.2.2.2.2.1]
  refine ⟨k0, fun h0 => ?_⟩
  rw [c1, i60, nIlt (by omega) (by omega), gp_0_12 h.1 hp, np_5 hp, nIc (by omega)]
  refine ⟨fun _ => ⟨vpn hlt (by omega), fun σ1 e1 σ2 e2 => ?_⟩, fun z => absurd hlt z⟩
  have b1 : rs_I σ1 (pb p) 11 = nI (pInb (aPe a p)).length := by rw [e1, I_ne (by omega)]; exact c1
  rw [b1, nI_1] at e2
  have hG2 : Gr σ2 := by rw [e2, e1]; exact h.1
  have f2 : Fp (fun u j => (u = pb p ∧ j = 11) ∨ u = pb p + 5) σ σ2 := by rw [e2, e1]; exact (Fp.rf.sI (Or.inr rfl)).sI (Or.inl ⟨rfl, rfl⟩)
  have hib : RIb σ2 (pb p) (inL a p x) := by
    refine ⟨by rw [e2, el]; exact I_same, by omega, fun k hk => ?_⟩
    rw [Nat.zero_add, e2, I_ne (by omega), e1]
    by_cases e : k = (pInb (aPe a p)).length
    · subst e; rw [I_same]; exact (inL_last hk).symm
    · have hk2 : k < (pInb (aPe a p)).length := by rw [el] at hk; omega
      rw [I_nk e]; exact (c3.get0 hk2).trans (inL_get hk hk2).symm
  have hc2 : CR μ σ2 (stPe a p (sInb (aPe a p) (inL a p x))) := h.fp (f2.fr fun u j z => by unfold FPp; omega) hG2 (hs.sInb f2 hib)
  have g0 : rs_I σ2 (pb p + 5) 0 = nI (mOf (inL a p x) 0) := (hib.2.2.get0 (by omega)).trans m0
  rw [gp_0_12 hG2 hp, np_5 hp, t0, g0, hib.1, i2, nIlt (by omega) (by omega), nIlt (by omega) (by omega), nIeq (by omega) (by omega)]
  exact ⟨vpl rfl, fun z => k1 h0 (Or.inl z) σ2 hc2, fun z1 => ⟨vpl rfl, fun z => k1 h0 (Or.inr (Or.inl z)) σ2 hc2, fun z2 => ⟨vpl rfl, fun z3 => k2 h0 (fun z => z.elim z1 (fun y => y.elim z2 z3)) σ2 hc2, fun z3 => k1 h0 (Or.inr (Or.inr z3)) σ2 hc2⟩⟩⟩
noncomputable def opFeed (a : Ab) (x : Int32) (y : Int64) (n : Int32) : Int32 × Int64 × Ab :=
  if ¬ (okP x ∧ 1 ≤ n ∧ n ≤ 8) then (1, 0, a)
  else if pSt (aPe a (tN x)) = 0 then (0, 0, a)
  else (0, 1, fdC (tN x) y n.toNatClampNeg a)
theorem pre_m1 {j : Nat} : nI (j + 1) + -1 = nI j := by
  have := nI_pred (n := j)
  rw [Int32.sub_eq_add_neg] at this
  exact this
theorem C_feed {x n : Int32} {y : Int64} {Q : Int32 → rs_Mem → Prop} (h : CR μ σ a) (hJ : AJ a) (kk : ResL μ (opFeed a x y n) Q) : F_La_feed NF 1 x y n 320 σ Q := by
  have bad : ¬ (okP x ∧ 1 ≤ n ∧ n ≤ 8) → ((1 : Nat) = 1 ∧ Q 1 σ) := fun hc => by
    unfold opFeed at kk
    rw [if_pos hc] at kk
    exact ⟨rfl, kk σ h (fun z => (n10 z).elim)⟩
  unfold F_La_feed F_Sp_feed
  refine P_peerNo (fun hx => w_f (by decide) ⟨fun hn => bad (fun z => by have := z.2.1; grind), fun hn => ⟨fun hn8 => ?_, fun hn8 => bad (fun z => hn8 z.2.2)⟩⟩) (fun hx => w_t rfl (bad (fun z => hx z.1)))
  obtain ⟨p, hp, rfl⟩ := okP_of hx
  obtain ⟨N, hN, rfl⟩ := nI_of2 (n := 8) (x := n) (M := 8) (by decide) (by grind) hn8
  have hN0 : 1 ≤ N := by
    have i1 : (1 : Int32) = nI 1 := by decide
    rw [i1, nIlt (by omega) (by omega)] at hn; omega
  have hg : okP (nI p) ∧ 1 ≤ nI N ∧ nI N ≤ 8 := ⟨hx, by grind, hn8⟩
  unfold opFeed at kk
  rw [if_neg (fun z => z hg), tN_nI (by omega), nIc (by omega)] at kk
  rw [gr_1_1 h.1, nf_6, nIc (by omega), gr_6 h.1 hp]
  refine ⟨vpn hp (by omega), fun v ev => ?_⟩
  subst ev
  refine P_Pe_isIdle h hp (fun h0 => w_f (by decide) (w_t rfl ⟨vp320, fun e he => ?_⟩)) (fun h0 => w_t rfl (fun x9 e9 => ?_))
  · rw [if_pos h0] at kk
    exact out0 h rfl rfl kk he
  rw [if_neg h0] at kk
  have key : ∀ i τ b, i ≤ N → CR μ τ b → AJ b → fdC p y i b = fdC p y N a → L_Sp_feed_52 NF (fun x54 σ51 => ((x54 = 0 → (vp_in (0 : Int32) (NF 320) ∧ ∀ σ56 : rs_Mem, σ56 = rs_sL σ51 320 (0 : Int32).toNatClampNeg (0 : Int64) → (Q (0 : Int32) σ56))) ∧ (¬ (x54 = 0) → (vp_in (0 : Int32) (NF 320) ∧ ∀ σ56 : rs_Mem, σ56 = rs_sL σ51 320 (0 : Int32).toNatClampNeg (1 : Int64) → (Q (0 : Int32) σ56))))) (fun k53 σ51 => ((k53 = 1 ∧ (Q (1 : Int32) σ51)))) (i + 1) 1 y (pb p) (nI i + -1) τ := by
    intro i
    induction i with
    | zero =>
      intro τ b hi g1 g2 g3
      have e : fdC p y 0 b = b := rfl
      rw [e] at g3
      rw [← g3] at kk
      exact w_t (by decide) (w_f (by decide) ⟨vp320, fun e he => out0 (r := (0, 1, b)) g1 rfl rfl kk he⟩)
    | succ i ih =>
      intro τ b hi g1 g2 g3
      have hb := AJ_comeC (x := byt y i) g2 hp byt_lt
      have g3 : fdC p y i (comeC b p (byt y i)) = fdC p y N a := g3
      rw [pre_m1]
      refine w_f (nI_pos (by omega)) ?_
      rw [byt_C (by omega)]
      have nxt : ∀ ρ c, CR μ ρ c → c = comeC b p (byt y i) → ∀ x53 : Int32, x53 = nI i + -1 → L_Sp_feed_52 NF (fun x54 σ51 => ((x54 = 0 → (vp_in (0 : Int32) (NF 320) ∧ ∀ σ56 : rs_Mem, σ56 = rs_sL σ51 320 (0 : Int32).toNatClampNeg (0 : Int64) → (Q (0 : Int32) σ56))) ∧ (¬ (x54 = 0) → (vp_in (0 : Int32) (NF 320) ∧ ∀ σ56 : rs_Mem, σ56 = rs_sL σ51 320 (0 : Int32).toNatClampNeg (1 : Int64) → (Q (0 : Int32) σ56))))) (fun k53 σ51 => ((k53 = 1 ∧ (Q (1 : Int32) σ51)))) (i + 1) 1 y (pb p) x53 ρ := fun ρ c r1 r2 x53 e53 => by
        subst e53 r2
        exact ih ρ _ (by omega) r1 hb g3
      refine P_Pe_takeByte g1 g2.1.1 hp byt_lt (fun hz => w_t rfl (nxt τ b g1 (comeC_idle hz).symm)) (fun hz hc ρ r1 => w_f (by decide) ?_) (fun hz hc ρ r1 => w_t rfl (nxt ρ _ r1 (by unfold comeC; rw [if_neg hz, if_neg hc])))
      have hiS := (g2.1.1.2.2 p hp)
      have hby := inL_byt (x := byt y i) hiS.2.2.1 byt_lt
      rw [gr_1_3 r1.1, gr_1_0 r1.1]
      have ep : aPe (stPe b p (sInb (aPe b p) (inL b p (byt y i)))) p = sInb (aPe b p) (inL b p (byt y i)) := stPe_at
      have el := inL_len (a := b) (p := p) (x := byt y i)
      refine P_Pe_lookAtMessage r1 hp (by rw [ep]; unfold nnS; rw [show pPen (sInb (aPe b p) (inL b p (byt y i))) = pPen (aPe b p) by simp only [pPen, sInb]]; exact hiS.1.2.2.2.1) (fun k hk => ?_) (by rw [ep, ii_Inb]; omega) (fun hf => ?_) (fun π s1 => ?_)
      · rw [ep, ii_Inb] at hk ⊢
        obtain ⟨q1, q2⟩ := mOf_at hby hk
        exact ⟨by rw [List.getElem?_eq_getElem hk, q1], q2⟩
      · rw [ep, ii_Inb] at hf ⊢
        omega
      · rw [ep, ii_Inb, stPe_self] at s1
        have e2 : sInb (sInb (aPe b p) (inL b p (byt y i))) [] = sInb (aPe b p) [] := by simp only [sInb]
        rw [e2] at s1
        obtain ⟨l1, l2⟩ := look_in g2.1.1 g2.2 hp hz (byt_lt (x := y) (i := i))
        exact P_Sp_tellAll s1 (AI0_okPad l1) (fun θ t1 => nxt θ _ t1 (by unfold comeC; rw [if_neg hz, if_pos hc]))
  have e9' : x9 = nI N + -1 := by rw [e9, Int32.sub_eq_add_neg]
  subst e9'
  exact ⟨_, key N σ a (Nat.le_refl N) h hJ rfl⟩
end FE
