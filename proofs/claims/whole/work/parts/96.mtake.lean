/-! the model: routes made, compared, copied; what came in changes -/
theorem gi_Role {s : Ps} {f : Nat → Option Rt} {g : Nat → UInt64} {h : Nat → Bool} : pRole (sDmp (sPen (sInc s f) g) h) = pRole s := by simp only [pRole, sDmp, sPen, sInc]
theorem gi_Net {s : Ps} {f : Nat → Option Rt} {g : Nat → UInt64} {h : Nat → Bool} : pNet (sDmp (sPen (sInc s f) g) h) = pNet s := by simp only [pNet, sDmp, sPen, sInc]
theorem gi_Pad {s : Ps} {f : Nat → Option Rt} {g : Nat → UInt64} {h : Nat → Bool} : pPad (sDmp (sPen (sInc s f) g) h) = pPad s := by simp only [pPad, sDmp, sPen, sInc]
theorem gi_Ml {s : Ps} {f : Nat → Option Rt} {g : Nat → UInt64} {h : Nat → Bool} : pMl (sDmp (sPen (sInc s f) g) h) = pMl s := by simp only [pMl, sDmp, sPen, sInc]
theorem gi_Ma {s : Ps} {f : Nat → Option Rt} {g : Nat → UInt64} {h : Nat → Bool} : pMa (sDmp (sPen (sInc s f) g) h) = pMa s := by simp only [pMa, sDmp, sPen, sInc]
theorem gi_St {s : Ps} {f : Nat → Option Rt} {g : Nat → UInt64} {h : Nat → Bool} : pSt (sDmp (sPen (sInc s f) g) h) = pSt s := by simp only [pSt, sDmp, sPen, sInc]
theorem gi_Ht {s : Ps} {f : Nat → Option Rt} {g : Nat → UInt64} {h : Nat → Bool} : pHt (sDmp (sPen (sInc s f) g) h) = pHt s := by simp only [pHt, sDmp, sPen, sInc]
theorem gi_Kt {s : Ps} {f : Nat → Option Rt} {g : Nat → UInt64} {h : Nat → Bool} : pKt (sDmp (sPen (sInc s f) g) h) = pKt s := by simp only [pKt, sDmp, sPen, sInc]
theorem gi_Ho {s : Ps} {f : Nat → Option Rt} {g : Nat → UInt64} {h : Nat → Bool} : pHo (sDmp (sPen (sInc s f) g) h) = pHo s := by simp only [pHo, sDmp, sPen, sInc]
theorem gi_Id {s : Ps} {f : Nat → Option Rt} {g : Nat → UInt64} {h : Nat → Bool} : pId (sDmp (sPen (sInc s f) g) h) = pId s := by simp only [pId, sDmp, sPen, sInc]
theorem gi_Inb {s : Ps} {f : Nat → Option Rt} {g : Nat → UInt64} {h : Nat → Bool} : pInb (sDmp (sPen (sInc s f) g) h) = pInb s := by simp only [pInb, sDmp, sPen, sInc]
theorem gi_Out {s : Ps} {f : Nat → Option Rt} {g : Nat → UInt64} {h : Nat → Bool} : pOut (sDmp (sPen (sInc s f) g) h) = pOut s := by simp only [pOut, sDmp, sPen, sInc]
theorem gi_Rul {s : Ps} {f : Nat → Option Rt} {g : Nat → UInt64} {h : Nat → Bool} : pRul (sDmp (sPen (sInc s f) g) h) = pRul s := by simp only [pRul, sDmp, sPen, sInc]
theorem gi_Inc {s : Ps} {f : Nat → Option Rt} {g : Nat → UInt64} {h : Nat → Bool} : pInc (sDmp (sPen (sInc s f) g) h) = f := by simp only [pInc, sDmp, sPen, sInc]
theorem gi_Pen {s : Ps} {f : Nat → Option Rt} {g : Nat → UInt64} {h : Nat → Bool} : pPen (sDmp (sPen (sInc s f) g) h) = g := by simp only [pPen, sDmp, sPen, sInc]
theorem gi_Dmp {s : Ps} {f : Nat → Option Rt} {g : Nat → UInt64} {h : Nat → Bool} : pDmp (sDmp (sPen (sInc s f) g) h) = h := by simp only [pDmp, sDmp, sPen, sInc]
theorem gi_Tol {s : Ps} {f : Nat → Option Rt} {g : Nat → UInt64} {h : Nat → Bool} : pTol (sDmp (sPen (sInc s f) g) h) = pTol s := by simp only [pTol, sDmp, sPen, sInc]
def RtP (r : Nat) : Nat → Nat → Prop := fun u j => ((u = 304 ∨ u = 305 ∨ (307 ≤ u ∧ u ≤ 311)) ∧ j = r) ∨ (u = 306 ∧ 8 * r ≤ j ∧ j < 8 * r + 8) ∨ (u = 312 ∧ 6 * r ≤ j ∧ j < 6 * r + 6)
def GrP (r : Nat) : Nat → Nat → Prop := fun u j => (u = 313 ∨ u = 314) ∧ j = r
def InK (r : Nat) : Nat → Nat → Prop := fun u j => RtP r u j ∨ GrP r u j ∨ (u = 303 ∧ j = r)
def MI1 (σ : rs_Mem) (p k : Nat) (o : Option Rt) (pe : UInt64) (d ext : Bool) : Prop := rs_I σ 303 (12 * p + k) = b2i o.isSome ∧ (∀ rt, o = some rt → MRt σ (12 * p + k) rt ext) ∧ rs_D σ 313 (12 * p + k) = pe ∧ rs_I σ 314 (12 * p + k) = b2i d
theorem ink_in {p k u j : Nat} (hk : k < 12) (z : InK (12 * p + k) u j) : InP p u j := by
  unfold InK RtP GrP at z
  unfold InP
  rcases z with z | z | z
  · rcases z with z | z | z <;> omega
  · omega
  · omega
theorem r60_in {u j : Nat} (z : RtP 60 u j) : ScP u j := by
  unfold RtP at z
  unfold ScP
  rcases z with z | z | z <;> omega
section MTA
variable {μ σ τ : rs_Mem} {a : Ab} {p k n r : Nat} {s : Ps} {m : Nat → Nat} {ps : List Nat}
theorem MPe.sIn1 {o : Option Rt} {pe : UInt64} {d : Bool} (h : MPe σ p s) (hk : k < 12) (f : Fp (InK (12 * p + k)) σ τ) (g : MI1 τ p k o pe d (decide (pRole s = 0))) : MPe τ p (sDmp (sPen (sInc s (upO (pInc s) k o)) (upO (pPen s) k pe)) (upO (pDmp s) k d)) := by
  obtain ⟨⟨a1, a2, a3, a4, a5, a6, a7, a8, a9, a10⟩, ⟨b1, b2, b3⟩, ⟨c1, c2, c3⟩, ⟨d1, d2, d3⟩, e, t⟩ := h
  have n : ∀ u j, (u < 303 ∨ 314 < u) → rs_I τ u j = rs_I σ u j := fun u j q1 => f.I (by unfold InK RtP GrP; omega)
  refine ⟨⟨?_, ?_, ?_, ?_, ?_, ?_, ?_, ?_, ?_, ?_⟩, ?_, ?_, ?_, fun j hj => ?_, fun j hj => ?_⟩
  · rw [gi_Role]; exact (n _ _ (by omega)).trans a1
  · rw [gi_Net]; exact (n _ _ (by omega)).trans a2
  · rw [gi_St]; exact (n _ _ (by omega)).trans a3
  · rw [gi_Ht]; exact (n _ _ (by omega)).trans a4
  · rw [gi_Kt]; exact (n _ _ (by omega)).trans a5
  · rw [gi_Ho]; exact (n _ _ (by omega)).trans a6
  · rw [gi_Id]; exact (n _ _ (by omega)).trans a7
  · rw [gi_Pad]; exact (n _ _ (by omega)).trans a8
  · rw [gi_Ml]; exact (n _ _ (by omega)).trans a9
  · rw [gi_Ma]; exact (n _ _ (by omega)).trans a10
  · rw [gi_Rul]
    exact ⟨(n _ _ (by omega)).trans b1, b2, fun k hk => ⟨(n _ _ (by omega)).trans (b3 k hk).1, (n _ _ (by omega)).trans (b3 k hk).2.1, (n _ _ (by omega)).trans (b3 k hk).2.2⟩⟩
  · rw [gi_Inb]
    exact ⟨(n _ _ (by omega)).trans c1, c2, fun k hk => (n _ _ (by omega)).trans (c3 k hk)⟩
  · rw [gi_Out]
    exact ⟨(n _ _ (by omega)).trans d1, d2, fun k hk => (n _ _ (by omega)).trans (d3 k hk)⟩
  · rw [gi_Inc, gi_Pen, gi_Dmp, gi_Role]
    by_cases ej : j = k
    · subst ej
      rw [upO_same, upO_same, upO_same]
      exact g
    · rw [upO_ne ej, upO_ne ej, upO_ne ej]
      obtain ⟨x, y, z, w⟩ := e j hj
      exact ⟨(f.I (by unfold InK RtP GrP; omega)).trans x, fun rt q => (y rt q).fp f (fun u q => by unfold InK RtP GrP; omega) (fun j q1 q2 => by unfold InK RtP GrP; omega) (fun j q1 q2 => by unfold InK RtP GrP; omega), (f.D (by unfold InK RtP GrP; omega)).trans z, (f.I (by unfold InK RtP GrP; omega)).trans w⟩
  · rw [gi_Tol]
    obtain ⟨x, y⟩ := t j hj
    refine ⟨fun q => (n _ _ (by omega)).trans (x q), fun t q => ?_⟩
    obtain ⟨y1, y2, y3⟩ := y t q
    exact ⟨(n _ _ (by omega)).trans y1, fun i hi => (n _ _ (by omega)).trans (y2 i hi), y3⟩
theorem P_Mo_grows {pe w : UInt64} {d : Bool} {Q : rs_Mem → Prop} (hG : Gr σ) (hr : r < 48) (h1 : rs_D σ 313 r = pe) (h2 : rs_I σ 314 r = b2i d) (hn : vf_n64 pe) (hw : Jvm.FP.Core.DFin w)
    (kk : ∀ τ, rs_D τ 313 r = FP.dadd pe w → rs_I τ 314 r = b2i (dmpG d (FP.dadd pe w)) → Fp (GrP r) σ τ → Gr τ → Q τ) : F_Mo_grows NF 281 (nI r) w σ Q := by
  have v48 : vp_in (nI r) 48 := vpn hr (by omega)
  unfold F_Mo_grows
  rw [gr_281_34 hG, nf_313, nIc (by omega), h1]
  refine ⟨v48, nn_add hn hw, v48, fun σ1 e1 => ?_⟩
  have hG1 : Gr σ1 := e1 ▸ hG
  have b1 : rs_I σ1 314 r = b2i d := by rw [e1]; exact h2
  have b3 : rs_D σ1 313 r = FP.dadd pe w := by rw [e1]; exact if_pos ⟨rfl, rfl⟩
  rw [gr_281_35 hG1, nf_314, gr_281_34 hG1, nf_313, b1, b3]
  have fin : ∀ x : Bool, x = dmpG d (FP.dadd pe w) → Q (rs_sI σ1 314 r (b2i x)) := fun x hx => by
    subst hx
    refine kk _ b3 I_same ?_ (Gr_I hG1)
    rw [e1]
    exact (Fp.rf.sD (by unfold GrP; omega)).sI (by unfold GrP; omega)
  refine ⟨v48, fun q => ⟨v48, fun σ2 e2 => ?_⟩, fun q => ⟨v48, fun q2 => ⟨v48, fun σ2 e2 => ?_⟩, fun q2 => ⟨v48, fun σ2 e2 => ?_⟩⟩⟩
  · subst e2
    refine fin true ?_
    cases d with
    | true => rfl
    | false => exact absurd rfl q
  · subst e2
    refine fin false ?_
    cases d with
    | true => exact absurd q (by decide)
    | false => unfold dmpG; simp [q2]
  · subst e2
    refine fin true ?_
    unfold dmpG; simp [q2]
theorem P_Mo_same {rt rt' : Rt} {e : Bool} {Q : Int32 → rs_Mem → Prop} (hG : Gr σ) (hr : r < 60) (h : MRt σ r rt e) (h' : MRt σ 60 rt' e) (he : e = true → rtP rt = rtP rt') (h1 : rt = rt' → Q 1 σ) (h0 : rt ≠ rt' → Q 0 σ) : F_Mo_same NF 281 (nI r) (nI 60) σ Q := by
  have i6 : (6 : Int32) = nI 6 := by decide
  have i8 : (8 : Int32) = nI 8 := by decide
  obtain ⟨a1, a2, a3, a4, a5, a6, a7, a8, a9, a10, a11⟩ := h
  obtain ⟨b1, b2, b3, b4, b5, b6, b7, b8, b9, b10, b11⟩ := h'
  have vr : vp_in (nI r) 61 := vpn (by omega) (by omega)
  have v6 : vp_in (nI 60) 61 := vpn (by omega) (by omega)
  have no : rt ≠ rt' → B_Mo_same_109 NF Q 281 (nI r) (nI 60) σ := fun hne => by
    have l171 : ∃ n : Nat, L_Mo_same_171 NF Q n 281 (nI r) (nI 60) 0 0 σ := ⟨1, by rw [gr_281_32 hG, nf_311]; exact vr, fun _ => ⟨by decide, h0 hne⟩, fun _ => w_t rfl ⟨by decide, h0 hne⟩⟩
    exact ⟨1, by rw [gr_281_26 hG, nf_305]; exact vr, fun _ => l171, fun _ => w_t rfl l171⟩
  have e6 : rtP rt = rtP rt' ↔ (if e = true then 0 else rtP rt) = (if e = true then 0 else rtP rt') := by
    cases e with
    | true => exact ⟨fun _ => rfl, fun _ => he rfl⟩
    | false => exact Iff.rfl
  unfold F_Mo_same
  rw [gr_281_25 hG, nf_304, gr_281_28 hG, nf_307, gr_281_29 hG, nf_308, gr_281_30 hG, nf_309, gr_281_31 hG, nf_310, gr_281_26 hG, nf_305, gr_281_32 hG, nf_311, nIc (n := r) (by omega), nIc (n := 60) (by omega), a1, a2, a4, a5, a6, a7, a8, b1, b2, b4, b5, b6, b7, b8, ← e6, nIeq (by omega) (by omega), nIeq (by omega) (by omega)]
  refine ⟨vr, v6, fun z => no (fun q => z (by rw [q])), fun z1 => ⟨vr, v6, fun z => no (fun q => z (by rw [q])), fun z2 => ⟨vr, v6, fun z => no (fun q => z (by rw [q])), fun z3 => ⟨vr, v6, fun z => no (fun q => z (by rw [q])), fun z4 => ⟨vr, v6, fun z => no (fun q => z (by rw [q])), fun z5 => ⟨vr, v6, fun z => no (fun q => z (by rw [q])), fun z6 => ⟨vr, v6, fun z => no (fun q => z (by rw [q])), fun z7 => ?_⟩⟩⟩⟩⟩⟩⟩
  have key2 : rtA rt = rtA rt' → ∀ d i (b : Bool), i + d = (rtC rt).length → (b = true → (rtC rt).take i = (rtC rt').take i) → (b = false → rt ≠ rt') → L_Mo_same_171 NF Q (d + 1) 281 (nI r) (nI 60) (b2i b) (nI i) σ := by
    intro hA d
    have ends : ∀ b : Bool, (b = true → rtC rt = rtC rt') → (b = false → rt ≠ rt') → (b2i b &&& 1 = b2i b) ∧ Q (b2i b) σ := fun b q1 q0 => ⟨by cases b <;> decide, by
      cases b with
      | true => exact h1 (rt_ext z1 z2 z3 z4 z5 hA (q1 rfl))
      | false => exact h0 (q0 rfl)⟩
    induction d with
    | zero =>
      intro i b hi hb hb0
      have ei : i = (rtC rt).length := by omega
      subst ei
      refine ⟨by rw [gr_281_32 hG, nf_311]; exact vr, w_t ?_ (ends b (fun z => ?_) hb0)⟩
      · rw [gr_281_32 hG, nIc (by omega), a8]; exact (nIle (by omega) (by omega)).mpr (by omega)
      · have := hb z
        rw [List.take_length, z7, List.take_length] at this
        exact this
    | succ d ih =>
      intro i b hi hb hb0
      refine ⟨by rw [gr_281_32 hG, nf_311]; exact vr, w_f (fun z => ?_) ?_⟩
      · rw [gr_281_32 hG, nIc (by omega), a8] at z
        have := (nIle (by omega) (by omega)).mp z; omega
      cases b with
      | false => exact w_t rfl (ends false (fun z => by cases z) hb0)
      | true =>
        refine w_f (by decide) ?_
        rw [gr_281_33 hG, nf_312, i6, nI_mul, nI_mul, nI_add, nI_add, nIc (n := 6 * r + i) (by omega), nIc (n := 6 * 60 + i) (by omega), a9 i (by omega), b9 i (by omega)]
        refine ⟨vpn (by omega) (by omega), vpn (by omega) (by omega), fun hne x ex => ?_, fun heq x ex => ?_⟩
        · subst ex
          rw [nI_1]
          exact ih (i + 1) false (by omega) (fun z => by cases z) (fun _ z => hne (by subst z; rfl))
        · subst ex
          rw [nI_1]
          refine ih (i + 1) true (by omega) (fun _ => ?_) (fun z => by cases z)
          rw [List.take_succ_eq_append_getElem (by omega), List.take_succ_eq_append_getElem (by omega), hb rfl, heq]
  have key : ∀ d i (b : Bool), i + d = (rtA rt).length → (b = true → (rtA rt).take i = (rtA rt').take i) → (b = false → rt ≠ rt') → L_Mo_same_114 NF Q (d + 1) 281 (nI r) (nI 60) (b2i b) (nI i) σ := by
    intro d
    have l171 : rt ≠ rt' → ∃ n : Nat, L_Mo_same_171 NF Q n 281 (nI r) (nI 60) 0 0 σ := fun hne => ⟨1, by rw [gr_281_32 hG, nf_311]; exact vr, fun _ => ⟨by decide, h0 hne⟩, fun _ => w_t rfl ⟨by decide, h0 hne⟩⟩
    induction d with
    | zero =>
      intro i b hi hb hb0
      have ei : i = (rtA rt).length := by omega
      subst ei
      refine ⟨by rw [gr_281_26 hG, nf_305]; exact vr, w_t ?_ ?_⟩
      · rw [gr_281_26 hG, nIc (by omega), a2]; exact (nIle (by omega) (by omega)).mpr (by omega)
      · cases b with
        | false => exact l171 (hb0 rfl)
        | true =>
          have := hb rfl
          rw [List.take_length, z6, List.take_length] at this
          exact ⟨_, key2 this (rtC rt).length 0 true (by omega) (fun _ => by simp) (fun z => by cases z)⟩
    | succ d ih =>
      intro i b hi hb hb0
      refine ⟨by rw [gr_281_26 hG, nf_305]; exact vr, w_f (fun z => ?_) ?_⟩
      · rw [gr_281_26 hG, nIc (by omega), a2] at z
        have := (nIle (by omega) (by omega)).mp z; omega
      cases b with
      | false => exact w_t rfl (l171 (hb0 rfl))
      | true =>
        refine w_f (by decide) ?_
        rw [gr_281_27 hG, nf_306, i8, nI_mul, nI_mul, nI_add, nI_add, nIc (n := 8 * r + i) (by omega), nIc (n := 8 * 60 + i) (by omega), a3 i (by omega), b3 i (by omega)]
        refine ⟨vpn (by omega) (by omega), vpn (by omega) (by omega), fun hne x ex => ?_, fun heq x ex => ?_⟩
        · subst ex
          rw [nI_1]
          exact ih (i + 1) false (by omega) (fun z => by cases z) (fun _ z => hne (by subst z; rfl))
        · subst ex
          rw [nI_1]
          refine ih (i + 1) true (by omega) (fun _ => ?_) (fun z => by cases z)
          rw [List.take_succ_eq_append_getElem (by omega), List.take_succ_eq_append_getElem (by omega), hb rfl, heq]
  exact ⟨_, key (rtA rt).length 0 true (by omega) (fun _ => by simp) (fun z => by cases z)⟩
theorem P_Mo_copy {rt : Rt} {e : Bool} {Q : rs_Mem → Prop} (hG : Gr σ) (hr : r < 60) (h : MRt σ 60 rt e) (kk : ∀ τ, MRt τ r rt e → Fp (RtP r) σ τ → Gr τ → Q τ) : F_Mo_copy NF 281 (nI 60) (nI r) σ Q := by
  have i6 : (6 : Int32) = nI 6 := by decide
  have i8 : (8 : Int32) = nI 8 := by decide
  obtain ⟨a1, a2, a3, a4, a5, a6, a7, a8, a9, a10, a11⟩ := h
  have vr : vp_in (nI r) 61 := vpn (by omega) (by omega)
  have v6 : vp_in (nI 60) 61 := vpn (by omega) (by omega)
  unfold F_Mo_copy
  rw [gr_281_25 hG, nf_304, nIc (n := r) (by omega), nIc (n := 60) (by omega), a1]
  refine ⟨v6, vr, fun σ1 e1 => ?_⟩
  have hG1 : Gr σ1 := e1 ▸ hG
  have r1 : ∀ u, rs_I σ1 u 60 = rs_I σ u 60 := fun u => by rw [e1]; exact I_nk (by omega)
  rw [gr_281_28 hG1, nf_307, r1, a4]
  refine ⟨v6, vr, fun σ2 e2 => ?_⟩
  have hG2 : Gr σ2 := e2 ▸ hG1
  have r2 : ∀ u, rs_I σ2 u 60 = rs_I σ u 60 := fun u => by rw [e2]; exact (I_nk (by omega)).trans (r1 u)
  rw [gr_281_29 hG2, nf_308, r2, a5]
  refine ⟨v6, vr, fun σ3 e3 => ?_⟩
  have hG3 : Gr σ3 := e3 ▸ hG2
  have r3 : ∀ u, rs_I σ3 u 60 = rs_I σ u 60 := fun u => by rw [e3]; exact (I_nk (by omega)).trans (r2 u)
  rw [gr_281_30 hG3, nf_309, r3, a6]
  refine ⟨v6, vr, fun σ4 e4 => ?_⟩
  have hG4 : Gr σ4 := e4 ▸ hG3
  have r4 : ∀ u, rs_I σ4 u 60 = rs_I σ u 60 := fun u => by rw [e4]; exact (I_nk (by omega)).trans (r3 u)
  rw [gr_281_31 hG4, nf_310, r4, a7]
  refine ⟨v6, vr, fun σ5 e5 => ?_⟩
  have hG5 : Gr σ5 := e5 ▸ hG4
  have r5 : ∀ u, rs_I σ5 u 60 = rs_I σ u 60 := fun u => by rw [e5]; exact (I_nk (by omega)).trans (r4 u)
  rw [gr_281_26 hG5, nf_305, r5, a2]
  refine ⟨v6, vr, fun σ6 e6 => ?_⟩
  have hG6 : Gr σ6 := e6 ▸ hG5
  have r6 : ∀ u, rs_I σ6 u 60 = rs_I σ u 60 := fun u => by rw [e6]; exact (I_nk (by omega)).trans (r5 u)
  rw [gr_281_32 hG6, nf_311, r6, a8]
  refine ⟨v6, vr, fun σ7 e7 => ?_⟩
  have hG7 : Gr σ7 := e7 ▸ hG6
  have f7 : Fp (fun u j => (u = 304 ∨ u = 305 ∨ (307 ≤ u ∧ u ≤ 311)) ∧ j = r) σ σ7 := by
    rw [e7, e6, e5, e4, e3, e2, e1]
    exact ((((((Fp.rf.sI (by omega)).sI (by omega)).sI (by omega)).sI (by omega)).sI (by omega)).sI (by omega)).sI (by omega)
  have q304 : rs_I σ7 304 r = rtO rt := by rw [e7, e6, e5, e4, e3, e2, e1]; simp [I_I]
  have q305 : rs_I σ7 305 r = nI (rtA rt).length := by rw [e7, e6]; simp [I_I]
  have q307 : rs_I σ7 307 r = rtN rt := by rw [e7, e6, e5, e4, e3, e2]; simp [I_I]
  have q308 : rs_I σ7 308 r = rtM rt := by rw [e7, e6, e5, e4, e3]; simp [I_I]
  have q309 : rs_I σ7 309 r = (if e = true then 0 else rtP rt) := by rw [e7, e6, e5, e4, I_ne (by omega), I_ne (by omega), I_ne (by omega)]; exact I_same
  have q310 : rs_I σ7 310 r = rtS rt := by rw [e7, e6, e5]; simp [I_I]
  have q311 : rs_I σ7 311 r = nI (rtC rt).length := by rw [e7]; exact I_same
  have p305 : rs_I σ7 305 60 = nI (rtA rt).length := (f7.I (by omega)).trans a2
  have p311 : rs_I σ7 311 60 = nI (rtC rt).length := (f7.I (by omega)).trans a8
  have key2 : ∀ τ0, Fp (fun u j => u = 306 ∧ 8 * r ≤ j ∧ j < 8 * r + 8) σ7 τ0 → Ar τ0 306 (8 * r) (rtA rt) → ∀ d i τ, i + d = (rtC rt).length → (∀ q (hq : q < (rtC rt).length), q < i → rs_I τ 312 (6 * r + q) = (rtC rt)[q]) → Fp (fun u j => u = 312 ∧ 6 * r ≤ j ∧ j < 6 * r + 6) τ0 τ → Gr τ → L_Mo_copy_126 NF Q (d + 1) 281 (nI 60) (nI r) (nI i) τ := by
    intro τ0 f0 hA0 d
    induction d with
    | zero =>
      intro i τ hi g1 g2 g3
      have ei : i = (rtC rt).length := by omega
      subst ei
      refine ⟨by rw [gr_281_32 g3, nf_311]; exact v6, w_t ?_ (kk τ ⟨?_, ?_, fun q hq => ?_, ?_, ?_, ?_, ?_, ?_, fun q hq => g1 q hq hq, a10, a11⟩ ?_ g3)⟩
      · rw [gr_281_32 g3, nIc (by omega), g2.I (by omega), f0.I (by omega), p311]; exact (nIle (by omega) (by omega)).mpr (by omega)
      · exact ((g2.I (by omega)).trans (f0.I (by omega))).trans q304
      · exact ((g2.I (by omega)).trans (f0.I (by omega))).trans q305
      · exact (g2.I (by omega)).trans (hA0 q hq)
      · exact ((g2.I (by omega)).trans (f0.I (by omega))).trans q307
      · exact ((g2.I (by omega)).trans (f0.I (by omega))).trans q308
      · exact ((g2.I (by omega)).trans (f0.I (by omega))).trans q309
      · exact ((g2.I (by omega)).trans (f0.I (by omega))).trans q310
      · exact ((g2.I (by omega)).trans (f0.I (by omega))).trans q311
      · exact ((f7.mono fun u j z => Or.inl z).tr (f0.mono fun u j z => Or.inr (Or.inl z))).tr (g2.mono fun u j z => Or.inr (Or.inr z))
    | succ d ih =>
      intro i τ hi g1 g2 g3
      refine ⟨by rw [gr_281_32 g3, nf_311]; exact v6, w_f (fun z => ?_) ?_⟩
      · rw [gr_281_32 g3, nIc (by omega), g2.I (by omega), f0.I (by omega), p311] at z
        have := (nIle (by omega) (by omega)).mp z; omega
      have src : rs_I τ 312 (6 * 60 + i) = (rtC rt)[i]'(by omega) := ((g2.I (by omega)).trans (f0.I (by omega))).trans ((f7.I (by omega)).trans (a9 i (by omega)))
      rw [gr_281_33 g3, nf_312, i6, nI_mul, nI_mul, nI_add, nI_add, nIc (n := 6 * r + i) (by omega), nIc (n := 6 * 60 + i) (by omega), src]
      refine ⟨vpn (by omega) (by omega), vpn (by omega) (by omega), fun σ8 e8 x ex => ?_⟩
      subst ex
      rw [nI_1]
      refine ih (i + 1) σ8 (by omega) (fun q hq hqi => ?_) (by rw [e8]; exact g2.sI (by omega)) (e8 ▸ g3)
      rw [e8]
      by_cases eq : q = i
      · subst eq; exact I_same
      · rw [I_nk (by omega)]; exact g1 q hq (by omega)
  have key : ∀ d i τ, i + d = (rtA rt).length → (∀ q (hq : q < (rtA rt).length), q < i → rs_I τ 306 (8 * r + q) = (rtA rt)[q]) → Fp (fun u j => u = 306 ∧ 8 * r ≤ j ∧ j < 8 * r + 8) σ7 τ → Gr τ → L_Mo_copy_86 NF Q (d + 1) 281 (nI 60) (nI r) (nI i) τ := by
    intro d
    induction d with
    | zero =>
      intro i τ hi g1 g2 g3
      have ei : i = (rtA rt).length := by omega
      subst ei
      refine ⟨by rw [gr_281_26 g3, nf_305]; exact v6, w_t ?_ ⟨_, key2 τ g2 (fun q hq => g1 q hq hq) (rtC rt).length 0 τ (by omega) (fun q hq z => by omega) Fp.rf g3⟩⟩
      rw [gr_281_26 g3, nIc (by omega), g2.I (by omega), p305]; exact (nIle (by omega) (by omega)).mpr (by omega)
    | succ d ih =>
      intro i τ hi g1 g2 g3
      refine ⟨by rw [gr_281_26 g3, nf_305]; exact v6, w_f (fun z => ?_) ?_⟩
      · rw [gr_281_26 g3, nIc (by omega), g2.I (by omega), p305] at z
        have := (nIle (by omega) (by omega)).mp z; omega
      have src : rs_I τ 306 (8 * 60 + i) = (rtA rt)[i]'(by omega) := (g2.I (by omega)).trans ((f7.I (by omega)).trans (a3 i (by omega)))
      rw [gr_281_27 g3, nf_306, i8, nI_mul, nI_mul, nI_add, nI_add, nIc (n := 8 * r + i) (by omega), nIc (n := 8 * 60 + i) (by omega), src]
      refine ⟨vpn (by omega) (by omega), vpn (by omega) (by omega), fun σ8 e8 x ex => ?_⟩
      subst ex
      rw [nI_1]
      refine ih (i + 1) σ8 (by omega) (fun q hq hqi => ?_) (by rw [e8]; exact g2.sI (by omega)) (e8 ▸ g3)
      rw [e8]
      by_cases eq : q = i
      · subst eq; exact I_same
      · rw [I_nk (by omega)]; exact g1 q hq (by omega)
  exact ⟨_, key (rtA rt).length 0 σ7 (by omega) (fun q hq z => by omega) Fp.rf hG7⟩
end MTA
